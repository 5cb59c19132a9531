theorem d_M_known_0 : decode Y_M_known.2.1 0 = .ok (.aload_n 0, 1) := by decide +kernel
theorem d_M_known_1 : decode Y_M_known.2.1 1 = .ok (.invokevirtual 217, 3) := by decide +kernel
theorem d_M_known_4 : decode Y_M_known.2.1 4 = .ok (.ifCond .ne 5, 3) := by decide +kernel
theorem d_M_known_7 : decode Y_M_known.2.1 7 = .ok (.iconst 0, 1) := by decide +kernel
theorem d_M_known_8 : decode Y_M_known.2.1 8 = .ok (.ireturn, 1) := by decide +kernel
theorem d_M_known_9 : decode Y_M_known.2.1 9 = .ok (.aload_n 0, 1) := by decide +kernel
theorem d_M_known_10 : decode Y_M_known.2.1 10 = .ok (.invokevirtual 281, 3) := by decide +kernel
theorem d_M_known_13 : decode Y_M_known.2.1 13 = .ok (.istore_n 2, 1) := by decide +kernel
theorem d_M_known_14 : decode Y_M_known.2.1 14 = .ok (.aload_n 0, 1) := by decide +kernel
theorem d_M_known_15 : decode Y_M_known.2.1 15 = .ok (.getfield 189, 3) := by decide +kernel
theorem d_M_known_18 : decode Y_M_known.2.1 18 = .ok (.iconst 2, 1) := by decide +kernel
theorem d_M_known_19 : decode Y_M_known.2.1 19 = .ok (.if_icmp .eq 10, 3) := by decide +kernel
theorem d_M_known_22 : decode Y_M_known.2.1 22 = .ok (.aload_n 0, 1) := by decide +kernel
theorem d_M_known_23 : decode Y_M_known.2.1 23 = .ok (.invokevirtual 224, 3) := by decide +kernel
theorem d_M_known_26 : decode Y_M_known.2.1 26 = .ok (.goto 43, 3) := by decide +kernel
theorem d_M_known_29 : decode Y_M_known.2.1 29 = .ok (.iload_n 2, 1) := by decide +kernel
theorem d_M_known_30 : decode Y_M_known.2.1 30 = .ok (.ifCond .ge 15, 3) := by decide +kernel
theorem d_M_known_33 : decode Y_M_known.2.1 33 = .ok (.aload_n 0, 1) := by decide +kernel
theorem d_M_known_34 : decode Y_M_known.2.1 34 = .ok (.iconst 5, 1) := by decide +kernel
theorem d_M_known_35 : decode Y_M_known.2.1 35 = .ok (.aload_n 0, 1) := by decide +kernel
theorem d_M_known_36 : decode Y_M_known.2.1 36 = .ok (.getfield 182, 3) := by decide +kernel
theorem d_M_known_39 : decode Y_M_known.2.1 39 = .ok (.invokevirtual 213, 3) := by decide +kernel
theorem d_M_known_42 : decode Y_M_known.2.1 42 = .ok (.goto 27, 3) := by decide +kernel
theorem d_M_known_45 : decode Y_M_known.2.1 45 = .ok (.iload_n 1, 1) := by decide +kernel
theorem d_M_known_46 : decode Y_M_known.2.1 46 = .ok (.iload_n 2, 1) := by decide +kernel
theorem d_M_known_47 : decode Y_M_known.2.1 47 = .ok (.invokestatic 252, 3) := by decide +kernel
theorem d_M_known_50 : decode Y_M_known.2.1 50 = .ok (.ifCond .eq 15, 3) := by decide +kernel
theorem d_M_known_53 : decode Y_M_known.2.1 53 = .ok (.aload_n 0, 1) := by decide +kernel
theorem d_M_known_54 : decode Y_M_known.2.1 54 = .ok (.iconst 3, 1) := by decide +kernel
theorem d_M_known_55 : decode Y_M_known.2.1 55 = .ok (.aload_n 0, 1) := by decide +kernel
theorem d_M_known_56 : decode Y_M_known.2.1 56 = .ok (.getfield 182, 3) := by decide +kernel
theorem d_M_known_59 : decode Y_M_known.2.1 59 = .ok (.invokevirtual 213, 3) := by decide +kernel
theorem d_M_known_62 : decode Y_M_known.2.1 62 = .ok (.goto 7, 3) := by decide +kernel
theorem d_M_known_65 : decode Y_M_known.2.1 65 = .ok (.aload_n 0, 1) := by decide +kernel
theorem d_M_known_66 : decode Y_M_known.2.1 66 = .ok (.invokevirtual 221, 3) := by decide +kernel
theorem d_M_known_69 : decode Y_M_known.2.1 69 = .ok (.iload_n 2, 1) := by decide +kernel
theorem d_M_known_70 : decode Y_M_known.2.1 70 = .ok (.ifCond .ge 7, 3) := by decide +kernel
theorem d_M_known_73 : decode Y_M_known.2.1 73 = .ok (.iconst 0, 1) := by decide +kernel
theorem d_M_known_74 : decode Y_M_known.2.1 74 = .ok (.goto 4, 3) := by decide +kernel
theorem d_M_known_77 : decode Y_M_known.2.1 77 = .ok (.iload_n 2, 1) := by decide +kernel
theorem d_M_known_78 : decode Y_M_known.2.1 78 = .ok (.ireturn, 1) := by decide +kernel
theorem e_M_known {l : Launch} {G : GT} {d : Nat} {P : Int → MM → Prop} {m : MM} (x1 : Int)  (H : wfM m → inR x1 → ∃ (e1 : Nat) (P2 : Int → MM → Prop), e1 < d ∧ CI l G Y_M_isGood e1 [.inr (.inr 70)] m P2 ∧ (∀ z7 m8, P2 z7 m8 → inR z7 → wfM m8 → ((z7 ≠ 0 → (∃ (e17 : Nat) (P18 : Int → MM → Prop), e17 < d ∧ CI l G Y_M_plateHere e17 [.inr (.inr 70)] m8 P18 ∧ (∀ z23 m24, P18 z23 m24 → inR z23 → wfM m24 → (((m24 70 8) = 2 → ((z23 ≥ 0 → (∃ (e38 : Nat) (P39 : Int → MM → Prop), e38 < d ∧ CI l G Y_M_bit e38 [.inl x1, .inl z23] m24 P39 ∧ (∀ z44 m45, P39 z44 m45 → inR z44 → wfM m45 → ((z44 = 0 → (∃ (e54 : Nat) (P55 : MM → Prop), e54 < d ∧ CV l G Y_M_goOn e54 [.inr (.inr 70)] m45 P55 ∧ (∀ m61, P55 m61 → wfM m61 → ((z23 ≥ 0 → (P z23 m61)) ∧ (¬ (z23 ≥ 0) → (P 0 m61)))))) ∧ (¬ (z44 = 0) → (∃ (e70 : Nat) (P71 : MM → Prop), e70 < d ∧ CV l G Y_M_fails e70 [.inr (.inr 70), .inl 3, .inl (m45 70 6)] m45 P71 ∧ (∀ m77, P71 m77 → wfM m77 → ((z23 ≥ 0 → (P z23 m77)) ∧ (¬ (z23 ≥ 0) → (P 0 m77)))))))))) ∧ (¬ (z23 ≥ 0) → (∃ (e86 : Nat) (P87 : MM → Prop), e86 < d ∧ CV l G Y_M_fails e86 [.inr (.inr 70), .inl 5, .inl (m24 70 6)] m24 P87 ∧ (∀ m93, P87 m93 → wfM m93 → ((z23 ≥ 0 → (P z23 m93)) ∧ (¬ (z23 ≥ 0) → (P 0 m93)))))))) ∧ (¬ ((m24 70 8) = 2) → (∃ (e102 : Nat) (P103 : MM → Prop), e102 < d ∧ CV l G Y_M_misplaced e102 [.inr (.inr 70)] m24 P103 ∧ (∀ m109, P103 m109 → wfM m109 → ((z23 ≥ 0 → (P z23 m109)) ∧ (¬ (z23 ≥ 0) → (P 0 m109)))))))))) ∧ (¬ (z7 ≠ 0) → (P 0 m8))))) : CI l G Y_M_known d [.inr (.inr 70), .inl x1] m P := by
  refine CI.of [(0, .inr (.inr 70)), (1, .inl x1)] k_M_known.1 (Nat.le_of_ble_eq_true rfl) rfl (Wp.wf (fun hw _ hl hs => ?_))
  have H0 := H hw (hl _ (List.mem_of_getElem? (i := 1) rfl))
  refine Wp.aload_n 0 0 d_M_known_0 rfl rfl ?_
  obtain ⟨e1, P2, hd3, ho4, H5⟩ := H0
  refine Wq.VI (st := []) [] d_M_known_1 k_M_isGood ml_M_217 rfl rfl rfl (fun h => by cases h) (Nat.le_of_ble_eq_true rfl) hd3 ho4 (fun z7 m8 hp9 hz10 hw11 => ?_)
  have H6 := H5 z7 m8 hp9 hz10 hw11
  obtain ⟨H13, H14⟩ := H6
  refine Wp.if_ne 9 d_M_known_4 (by decide) (fun c12 => ?_) (fun c12 => ?_)
  · have H15 := H13 c12
    refine Wp.aload_n 0 0 d_M_known_9 rfl rfl ?_
    obtain ⟨e17, P18, hd19, ho20, H21⟩ := H15
    refine Wq.VI (st := []) [] d_M_known_10 k_M_plateHere ml_M_281 rfl rfl rfl (fun h => by cases h) (Nat.le_of_ble_eq_true rfl) hd19 ho20 (fun z23 m24 hp25 hz26 hw27 => ?_)
    have H22 := H21 z23 m24 hp25 hz26 hw27
    refine Wp.istore_n 2 [(0, .inr (.inr 70)), (1, .inl x1), (2, .inl z23)] d_M_known_13 rfl (by decide) rfl ?_
    refine Wp.aload_n 0 0 d_M_known_14 rfl rfl ?_
    refine Wq.getI 8 rfl d_M_known_15 fl_M_189 rfl (Or.inl rfl) ?_
    refine Wp.iconst d_M_known_18 (by decide) ?_
    obtain ⟨H29, H30⟩ := H22
    refine Wp.icmp_eq 29 d_M_known_19 (by decide) (fun c28 => ?_) (fun c28 => ?_)
    · have H31 := H29 c28
      refine Wp.iload_n 2 2 d_M_known_29 rfl rfl ?_
      obtain ⟨H34, H35⟩ := H31
      refine Wp.if_ge 45 d_M_known_30 (by decide) (fun c33 => ?_) (fun c33 => ?_)
      · have H36 := H34 c33
        refine Wp.iload_n 1 1 d_M_known_45 rfl rfl ?_
        refine Wp.iload_n 2 2 d_M_known_46 rfl rfl ?_
        obtain ⟨e38, P39, hd40, ho41, H42⟩ := H36
        refine Wq.SI (st := []) [.inl x1, .inl z23] d_M_known_47 k_M_bit ml_M_252 rfl  (fun h => by cases h) (Nat.le_of_ble_eq_true rfl) hd40 ho41 (fun z44 m45 hp46 hz47 hw48 => ?_)
        have H43 := H42 z44 m45 hp46 hz47 hw48
        obtain ⟨H50, H51⟩ := H43
        refine Wp.if_eq 65 d_M_known_50 (by decide) (fun c49 => ?_) (fun c49 => ?_)
        · have H52 := H50 c49
          refine Wp.aload_n 0 0 d_M_known_65 rfl rfl ?_
          obtain ⟨e54, P55, hd56, ho57, H58⟩ := H52
          refine Wq.VV (st := []) [] d_M_known_66 k_M_goOn ml_M_221 rfl rfl rfl (fun h => by cases h) (Nat.le_of_ble_eq_true rfl) hd56 ho57 (fun m61 hp62 hw64 => ?_)
          have H59 := H58 m61 hp62 hw64
          refine Wp.iload_n 2 2 d_M_known_69 rfl rfl ?_
          obtain ⟨H66, H67⟩ := H59
          refine Wp.if_ge 77 d_M_known_70 (by decide) (fun c65 => ?_) (fun c65 => ?_)
          · have H68 := H66 c65
            refine Wp.iload_n 2 2 d_M_known_77 rfl rfl ?_
            exact Wq.iret d_M_known_78 rfl H68
          · have H69 := H67 c65
            refine Wp.iconst d_M_known_73 (by decide) ?_
            refine Wp.goto 78 d_M_known_74 (by decide) ?_
            exact Wq.iret d_M_known_78 rfl H69
        · have H53 := H51 c49
          refine Wp.aload_n 0 0 d_M_known_53 rfl rfl ?_
          refine Wp.iconst d_M_known_54 (by decide) ?_
          refine Wp.aload_n 0 0 d_M_known_55 rfl rfl ?_
          refine Wq.getI 6 rfl d_M_known_56 fl_M_182 rfl (Or.inl rfl) ?_
          obtain ⟨e70, P71, hd72, ho73, H74⟩ := H53
          refine Wq.VV (st := []) [.inl 3, .inl (m45 70 6)] d_M_known_59 k_M_fails ml_M_213 rfl rfl rfl (fun h => by cases h) (Nat.le_of_ble_eq_true rfl) hd72 ho73 (fun m77 hp78 hw80 => ?_)
          have H75 := H74 m77 hp78 hw80
          refine Wp.goto 69 d_M_known_62 (by decide) ?_
          refine Wp.iload_n 2 2 d_M_known_69 rfl rfl ?_
          obtain ⟨H82, H83⟩ := H75
          refine Wp.if_ge 77 d_M_known_70 (by decide) (fun c81 => ?_) (fun c81 => ?_)
          · have H84 := H82 c81
            refine Wp.iload_n 2 2 d_M_known_77 rfl rfl ?_
            exact Wq.iret d_M_known_78 rfl H84
          · have H85 := H83 c81
            refine Wp.iconst d_M_known_73 (by decide) ?_
            refine Wp.goto 78 d_M_known_74 (by decide) ?_
            exact Wq.iret d_M_known_78 rfl H85
      · have H37 := H35 c33
        refine Wp.aload_n 0 0 d_M_known_33 rfl rfl ?_
        refine Wp.iconst d_M_known_34 (by decide) ?_
        refine Wp.aload_n 0 0 d_M_known_35 rfl rfl ?_
        refine Wq.getI 6 rfl d_M_known_36 fl_M_182 rfl (Or.inl rfl) ?_
        obtain ⟨e86, P87, hd88, ho89, H90⟩ := H37
        refine Wq.VV (st := []) [.inl 5, .inl (m24 70 6)] d_M_known_39 k_M_fails ml_M_213 rfl rfl rfl (fun h => by cases h) (Nat.le_of_ble_eq_true rfl) hd88 ho89 (fun m93 hp94 hw96 => ?_)
        have H91 := H90 m93 hp94 hw96
        refine Wp.goto 69 d_M_known_42 (by decide) ?_
        refine Wp.iload_n 2 2 d_M_known_69 rfl rfl ?_
        obtain ⟨H98, H99⟩ := H91
        refine Wp.if_ge 77 d_M_known_70 (by decide) (fun c97 => ?_) (fun c97 => ?_)
        · have H100 := H98 c97
          refine Wp.iload_n 2 2 d_M_known_77 rfl rfl ?_
          exact Wq.iret d_M_known_78 rfl H100
        · have H101 := H99 c97
          refine Wp.iconst d_M_known_73 (by decide) ?_
          refine Wp.goto 78 d_M_known_74 (by decide) ?_
          exact Wq.iret d_M_known_78 rfl H101
    · have H32 := H30 c28
      refine Wp.aload_n 0 0 d_M_known_22 rfl rfl ?_
      obtain ⟨e102, P103, hd104, ho105, H106⟩ := H32
      refine Wq.VV (st := []) [] d_M_known_23 k_M_misplaced ml_M_224 rfl rfl rfl (fun h => by cases h) (Nat.le_of_ble_eq_true rfl) hd104 ho105 (fun m109 hp110 hw112 => ?_)
      have H107 := H106 m109 hp110 hw112
      refine Wp.goto 69 d_M_known_26 (by decide) ?_
      refine Wp.iload_n 2 2 d_M_known_69 rfl rfl ?_
      obtain ⟨H114, H115⟩ := H107
      refine Wp.if_ge 77 d_M_known_70 (by decide) (fun c113 => ?_) (fun c113 => ?_)
      · have H116 := H114 c113
        refine Wp.iload_n 2 2 d_M_known_77 rfl rfl ?_
        exact Wq.iret d_M_known_78 rfl H116
      · have H117 := H115 c113
        refine Wp.iconst d_M_known_73 (by decide) ?_
        refine Wp.goto 78 d_M_known_74 (by decide) ?_
        exact Wq.iret d_M_known_78 rfl H117
  · have H16 := H14 c12
    refine Wp.iconst d_M_known_7 (by decide) ?_
    exact Wq.iret d_M_known_8 rfl H16
theorem d_M_readDrain_0 : decode Y_M_readDrain.2.1 0 = .ok (.iconst 0, 1) := by decide +kernel
theorem d_M_readDrain_1 : decode Y_M_readDrain.2.1 1 = .ok (.istore_n 1, 1) := by decide +kernel
theorem d_M_readDrain_2 : decode Y_M_readDrain.2.1 2 = .ok (.iconst 0, 1) := by decide +kernel
theorem d_M_readDrain_3 : decode Y_M_readDrain.2.1 3 = .ok (.istore_n 2, 1) := by decide +kernel
theorem d_M_readDrain_4 : decode Y_M_readDrain.2.1 4 = .ok (.iload_n 2, 1) := by decide +kernel
theorem d_M_readDrain_5 : decode Y_M_readDrain.2.1 5 = .ok (.iconst 5, 1) := by decide +kernel
theorem d_M_readDrain_6 : decode Y_M_readDrain.2.1 6 = .ok (.if_icmp .ge 31, 3) := by decide +kernel
theorem d_M_readDrain_9 : decode Y_M_readDrain.2.1 9 = .ok (.aload_n 0, 1) := by decide +kernel
theorem d_M_readDrain_10 : decode Y_M_readDrain.2.1 10 = .ok (.getfield 45, 3) := by decide +kernel
theorem d_M_readDrain_13 : decode Y_M_readDrain.2.1 13 = .ok (.iconst 5, 1) := by decide +kernel
theorem d_M_readDrain_14 : decode Y_M_readDrain.2.1 14 = .ok (.aload_n 0, 1) := by decide +kernel
theorem d_M_readDrain_15 : decode Y_M_readDrain.2.1 15 = .ok (.getfield 234, 3) := by decide +kernel
theorem d_M_readDrain_18 : decode Y_M_readDrain.2.1 18 = .ok (.imul, 1) := by decide +kernel
theorem d_M_readDrain_19 : decode Y_M_readDrain.2.1 19 = .ok (.iload_n 2, 1) := by decide +kernel
theorem d_M_readDrain_20 : decode Y_M_readDrain.2.1 20 = .ok (.iadd, 1) := by decide +kernel
theorem d_M_readDrain_21 : decode Y_M_readDrain.2.1 21 = .ok (.iaload, 1) := by decide +kernel
theorem d_M_readDrain_22 : decode Y_M_readDrain.2.1 22 = .ok (.ifCond .le 9, 3) := by decide +kernel
theorem d_M_readDrain_25 : decode Y_M_readDrain.2.1 25 = .ok (.iload_n 1, 1) := by decide +kernel
theorem d_M_readDrain_26 : decode Y_M_readDrain.2.1 26 = .ok (.iconst 1, 1) := by decide +kernel
theorem d_M_readDrain_27 : decode Y_M_readDrain.2.1 27 = .ok (.iload_n 2, 1) := by decide +kernel
theorem d_M_readDrain_28 : decode Y_M_readDrain.2.1 28 = .ok (.ishl, 1) := by decide +kernel
theorem d_M_readDrain_29 : decode Y_M_readDrain.2.1 29 = .ok (.ior, 1) := by decide +kernel
theorem d_M_readDrain_30 : decode Y_M_readDrain.2.1 30 = .ok (.istore_n 1, 1) := by decide +kernel
theorem d_M_readDrain_31 : decode Y_M_readDrain.2.1 31 = .ok (.iinc 2 1, 3) := by decide +kernel
theorem d_M_readDrain_34 : decode Y_M_readDrain.2.1 34 = .ok (.goto (-30), 3) := by decide +kernel
theorem d_M_readDrain_37 : decode Y_M_readDrain.2.1 37 = .ok (.aload_n 0, 1) := by decide +kernel
theorem d_M_readDrain_38 : decode Y_M_readDrain.2.1 38 = .ok (.iload_n 1, 1) := by decide +kernel
theorem d_M_readDrain_39 : decode Y_M_readDrain.2.1 39 = .ok (.invokevirtual 289, 3) := by decide +kernel
theorem d_M_readDrain_42 : decode Y_M_readDrain.2.1 42 = .ok (.istore_n 2, 1) := by decide +kernel
theorem d_M_readDrain_43 : decode Y_M_readDrain.2.1 43 = .ok (.aload_n 0, 1) := by decide +kernel
theorem d_M_readDrain_44 : decode Y_M_readDrain.2.1 44 = .ok (.ldc2_w 155, 3) := by decide +kernel
theorem d_M_readDrain_47 : decode Y_M_readDrain.2.1 47 = .ok (.iconst 1, 1) := by decide +kernel
theorem d_M_readDrain_48 : decode Y_M_readDrain.2.1 48 = .ok (.iconst 2, 1) := by decide +kernel
theorem d_M_readDrain_49 : decode Y_M_readDrain.2.1 49 = .ok (.iconst 1, 1) := by decide +kernel
theorem d_M_readDrain_50 : decode Y_M_readDrain.2.1 50 = .ok (.invokevirtual 285, 3) := by decide +kernel
theorem d_M_readDrain_53 : decode Y_M_readDrain.2.1 53 = .ok (.istore_n 3, 1) := by decide +kernel
theorem d_M_readDrain_54 : decode Y_M_readDrain.2.1 54 = .ok (.aload_n 0, 1) := by decide +kernel
theorem d_M_readDrain_55 : decode Y_M_readDrain.2.1 55 = .ok (.invokevirtual 217, 3) := by decide +kernel
theorem d_M_readDrain_58 : decode Y_M_readDrain.2.1 58 = .ok (.ifCond .ne 4, 3) := by decide +kernel
theorem d_M_readDrain_61 : decode Y_M_readDrain.2.1 61 = .ok (.return_, 1) := by decide +kernel
theorem d_M_readDrain_62 : decode Y_M_readDrain.2.1 62 = .ok (.aload_n 0, 1) := by decide +kernel
theorem d_M_readDrain_63 : decode Y_M_readDrain.2.1 63 = .ok (.getfield 45, 3) := by decide +kernel
theorem d_M_readDrain_66 : decode Y_M_readDrain.2.1 66 = .ok (.iconst 5, 1) := by decide +kernel
theorem d_M_readDrain_67 : decode Y_M_readDrain.2.1 67 = .ok (.aload_n 0, 1) := by decide +kernel
theorem d_M_readDrain_68 : decode Y_M_readDrain.2.1 68 = .ok (.getfield 234, 3) := by decide +kernel
theorem d_M_readDrain_71 : decode Y_M_readDrain.2.1 71 = .ok (.imul, 1) := by decide +kernel
theorem d_M_readDrain_72 : decode Y_M_readDrain.2.1 72 = .ok (.iload_n 2, 1) := by decide +kernel
theorem d_M_readDrain_73 : decode Y_M_readDrain.2.1 73 = .ok (.iadd, 1) := by decide +kernel
theorem d_M_readDrain_74 : decode Y_M_readDrain.2.1 74 = .ok (.iload_n 3, 1) := by decide +kernel
theorem d_M_readDrain_75 : decode Y_M_readDrain.2.1 75 = .ok (.iastore, 1) := by decide +kernel
theorem d_M_readDrain_76 : decode Y_M_readDrain.2.1 76 = .ok (.aload_n 0, 1) := by decide +kernel
theorem d_M_readDrain_77 : decode Y_M_readDrain.2.1 77 = .ok (.getfield 24, 3) := by decide +kernel
theorem d_M_readDrain_80 : decode Y_M_readDrain.2.1 80 = .ok (.aload_n 0, 1) := by decide +kernel
theorem d_M_readDrain_81 : decode Y_M_readDrain.2.1 81 = .ok (.getfield 234, 3) := by decide +kernel
theorem d_M_readDrain_84 : decode Y_M_readDrain.2.1 84 = .ok (.dup2, 1) := by decide +kernel
theorem d_M_readDrain_85 : decode Y_M_readDrain.2.1 85 = .ok (.iaload, 1) := by decide +kernel
theorem d_M_readDrain_86 : decode Y_M_readDrain.2.1 86 = .ok (.iconst 1, 1) := by decide +kernel
theorem d_M_readDrain_87 : decode Y_M_readDrain.2.1 87 = .ok (.iadd, 1) := by decide +kernel
theorem d_M_readDrain_88 : decode Y_M_readDrain.2.1 88 = .ok (.iastore, 1) := by decide +kernel
theorem d_M_readDrain_89 : decode Y_M_readDrain.2.1 89 = .ok (.return_, 1) := by decide +kernel
theorem e_M_readDrain {l : Launch} {G : GT} {d : Nat} {P : MM → Prop} {m : MM}   (H : wfM m → Wq l G false Y_M_readDrain d (QV P) 4 [(0, .inr (.inr 70)), (1, .inl 0), (2, .inl 0)] [] m) : CV l G Y_M_readDrain d [.inr (.inr 70)] m P := by
  refine CV.of [(0, .inr (.inr 70))] k_M_readDrain.1 (Nat.le_of_ble_eq_true rfl) rfl (Wp.wf (fun hw _ hl hs => ?_))
  have H0 := H hw
  refine Wp.iconst d_M_readDrain_0 (by decide) ?_
  refine Wp.istore_n 1 [(0, .inr (.inr 70)), (1, .inl 0)] d_M_readDrain_1 rfl (by decide) rfl ?_
  refine Wp.iconst d_M_readDrain_2 (by decide) ?_
  refine Wp.istore_n 2 [(0, .inr (.inr 70)), (1, .inl 0), (2, .inl 0)] d_M_readDrain_3 rfl (by decide) rfl ?_
  exact H0
theorem s_M_readDrain_4 {l : Launch} {G : GT} {d : Nat} {P : MM → Prop} {m : MM} (x1 : Int) (x2 : Int)  (H : wfM m → inR x1 → inR x2 → (x2 ≥ 5 → (∃ (e6 : Nat) (P7 : Int → MM → Prop), e6 < d ∧ CI l G Y_M_known e6 [.inr (.inr 70), .inl x1] m P7 ∧ (∀ z12 m13, P7 z12 m13 → inR z12 → wfM m13 → (∃ (e17 : Nat) (P18 : Int → MM → Prop), e17 < d ∧ CI l G Y_M_perhaps e17 [.inr (.inr 70), .inr (.inl 2003395685), .inl 1, .inl 2, .inl 1] m13 P18 ∧ (∀ z23 m24, P18 z23 m24 → inR z23 → wfM m24 → (∃ (e28 : Nat) (P29 : Int → MM → Prop), e28 < d ∧ CI l G Y_M_isGood e28 [.inr (.inr 70)] m24 P29 ∧ (∀ z34 m35, P29 z34 m35 → inR z34 → wfM m35 → ((z34 ≠ 0 → ((inR (5 * (m35 70 29))) ∧ ((inR ((5 * (m35 70 29)) + z12)) ∧ ((0 ≤ ((5 * (m35 70 29)) + z12) ∧ ((5 * (m35 70 29)) + z12) < (10 : Int)) ∧ (∀ m48, m48 = up m35 81 ((5 * (m35 70 29)) + z12) z23 → ((0 ≤ (m48 70 29) ∧ (m48 70 29) < (2 : Int)) ∧ ((inR ((m48 74 (m48 70 29)) + 1)) ∧ ((0 ≤ (m48 70 29) ∧ (m48 70 29) < (2 : Int)) ∧ (∀ m57, m57 = up m48 74 (m48 70 29) ((m48 74 (m48 70 29)) + 1) → (P m57)))))))))) ∧ (¬ (z34 ≠ 0) → (P m35)))))))))) ∧ (¬ (x2 ≥ 5) → ((inR (5 * (m 70 29))) ∧ ((inR ((5 * (m 70 29)) + x2)) ∧ ((0 ≤ ((5 * (m 70 29)) + x2) ∧ ((5 * (m 70 29)) + x2) < (10 : Int)) ∧ (((m 81 ((5 * (m 70 29)) + x2)) ≤ 0 → ((inR (x2 + 1)) ∧ (Wq l G false Y_M_readDrain d (QV P) 4 [(0, .inr (.inr 70)), (1, .inl x1), (2, .inl (x2 + 1))] [] m))) ∧ (¬ ((m 81 ((5 * (m 70 29)) + x2)) ≤ 0) → ((inR (x2 + 1)) ∧ (Wq l G false Y_M_readDrain d (QV P) 4 [(0, .inr (.inr 70)), (1, .inl (bOr x1 (bShl 1 x2))), (2, .inl (x2 + 1))] [] m))))))))) : Wq l G false Y_M_readDrain d (QV P) 4 [(0, .inr (.inr 70)), (1, .inl x1), (2, .inl x2)] [] m := by
  refine Wp.wf (fun hw _ hl hs => ?_)
  have H0 := H hw (hl _ (List.mem_of_getElem? (i := 1) rfl)) (hl _ (List.mem_of_getElem? (i := 2) rfl))
  refine Wp.iload_n 2 2 d_M_readDrain_4 rfl rfl ?_
  refine Wp.iconst d_M_readDrain_5 (by decide) ?_
  obtain ⟨H2, H3⟩ := H0
  refine Wp.icmp_ge 37 d_M_readDrain_6 (by decide) (fun c1 => ?_) (fun c1 => ?_)
  · have H4 := H2 c1
    refine Wp.aload_n 0 0 d_M_readDrain_37 rfl rfl ?_
    refine Wp.iload_n 1 1 d_M_readDrain_38 rfl rfl ?_
    obtain ⟨e6, P7, hd8, ho9, H10⟩ := H4
    refine Wq.VI (st := []) [.inl x1] d_M_readDrain_39 k_M_known ml_M_289 rfl rfl rfl (fun h => by cases h) (Nat.le_of_ble_eq_true rfl) hd8 ho9 (fun z12 m13 hp14 hz15 hw16 => ?_)
    have H11 := H10 z12 m13 hp14 hz15 hw16
    refine Wp.istore_n 2 [(0, .inr (.inr 70)), (1, .inl x1), (2, .inl z12)] d_M_readDrain_42 rfl (by decide) rfl ?_
    refine Wp.aload_n 0 0 d_M_readDrain_43 rfl rfl ?_
    refine Wp.ldc2 (z := 2003395685) d_M_readDrain_44 kl_M_155 (by decide) (by decide) ?_
    refine Wp.iconst d_M_readDrain_47 (by decide) ?_
    refine Wp.iconst d_M_readDrain_48 (by decide) ?_
    refine Wp.iconst d_M_readDrain_49 (by decide) ?_
    obtain ⟨e17, P18, hd19, ho20, H21⟩ := H11
    refine Wq.VI (st := []) [.inr (.inl 2003395685), .inl 1, .inl 2, .inl 1] d_M_readDrain_50 k_M_perhaps ml_M_285 rfl rfl rfl (fun h => by cases h) (Nat.le_of_ble_eq_true rfl) hd19 ho20 (fun z23 m24 hp25 hz26 hw27 => ?_)
    have H22 := H21 z23 m24 hp25 hz26 hw27
    refine Wp.istore_n 3 [(0, .inr (.inr 70)), (1, .inl x1), (2, .inl z12), (3, .inl z23)] d_M_readDrain_53 rfl (by decide) rfl ?_
    refine Wp.aload_n 0 0 d_M_readDrain_54 rfl rfl ?_
    obtain ⟨e28, P29, hd30, ho31, H32⟩ := H22
    refine Wq.VI (st := []) [] d_M_readDrain_55 k_M_isGood ml_M_217 rfl rfl rfl (fun h => by cases h) (Nat.le_of_ble_eq_true rfl) hd30 ho31 (fun z34 m35 hp36 hz37 hw38 => ?_)
    have H33 := H32 z34 m35 hp36 hz37 hw38
    obtain ⟨H40, H41⟩ := H33
    refine Wp.if_ne 62 d_M_readDrain_58 (by decide) (fun c39 => ?_) (fun c39 => ?_)
    · have H42 := H40 c39
      refine Wp.aload_n 0 0 d_M_readDrain_62 rfl rfl ?_
      refine Wp.getP 81 d_M_readDrain_63 fl_M_45 rfl rfl rfl ?_
      refine Wp.iconst d_M_readDrain_66 (by decide) ?_
      refine Wp.aload_n 0 0 d_M_readDrain_67 rfl rfl ?_
      refine Wq.getI 29 rfl d_M_readDrain_68 fl_M_234 rfl (Or.inl rfl) ?_
      obtain ⟨s44, H45⟩ := H42
      refine Wp.imul d_M_readDrain_71 s44 ?_
      refine Wp.iload_n 2 2 d_M_readDrain_72 rfl rfl ?_
      obtain ⟨s46, H47⟩ := H45
      refine Wp.iadd d_M_readDrain_73 s46 ?_
      refine Wp.iload_n 3 3 d_M_readDrain_74 rfl rfl ?_
      obtain ⟨s64, H65⟩ := H47
      refine Wq.iast d_M_readDrain_75 rfl s64.1 s64.2 (fun m48 hm49 => ?_)
      have H50 := H65 m48 hm49
      refine Wp.aload_n 0 0 d_M_readDrain_76 rfl rfl ?_
      refine Wp.getP 74 d_M_readDrain_77 fl_M_24 rfl rfl rfl ?_
      refine Wp.aload_n 0 0 d_M_readDrain_80 rfl rfl ?_
      refine Wq.getI 29 rfl d_M_readDrain_81 fl_M_234 rfl (Or.inl rfl) ?_
      refine Wp.dup2 d_M_readDrain_84 rfl rfl ?_
      obtain ⟨s53, H54⟩ := H50
      refine Wp.iald d_M_readDrain_85 rfl (Or.inl rfl) s53.1 s53.2 ?_
      refine Wp.iconst d_M_readDrain_86 (by decide) ?_
      obtain ⟨s55, H56⟩ := H54
      refine Wp.iadd d_M_readDrain_87 s55 ?_
      obtain ⟨s62, H63⟩ := H56
      refine Wq.iast d_M_readDrain_88 rfl s62.1 s62.2 (fun m57 hm58 => ?_)
      have H59 := H63 m57 hm58
      exact Wq.vret d_M_readDrain_89 rfl H59
    · have H43 := H41 c39
      exact Wq.vret d_M_readDrain_61 rfl H43
  · have H5 := H3 c1
    refine Wp.aload_n 0 0 d_M_readDrain_9 rfl rfl ?_
    refine Wp.getP 81 d_M_readDrain_10 fl_M_45 rfl rfl rfl ?_
    refine Wp.iconst d_M_readDrain_13 (by decide) ?_
    refine Wp.aload_n 0 0 d_M_readDrain_14 rfl rfl ?_
    refine Wq.getI 29 rfl d_M_readDrain_15 fl_M_234 rfl (Or.inl rfl) ?_
    obtain ⟨s66, H67⟩ := H5
    refine Wp.imul d_M_readDrain_18 s66 ?_
    refine Wp.iload_n 2 2 d_M_readDrain_19 rfl rfl ?_
    obtain ⟨s68, H69⟩ := H67
    refine Wp.iadd d_M_readDrain_20 s68 ?_
    obtain ⟨s70, H71⟩ := H69
    refine Wp.iald d_M_readDrain_21 rfl (Or.inl rfl) s70.1 s70.2 ?_
    obtain ⟨H73, H74⟩ := H71
    refine Wp.if_le 31 d_M_readDrain_22 (by decide) (fun c72 => ?_) (fun c72 => ?_)
    · have H75 := H73 c72
      obtain ⟨s77, H78⟩ := H75
      refine Wp.iinc 2 2 [(0, .inr (.inr 70)), (1, .inl x1), (2, .inl (x2 + 1))] d_M_readDrain_31 rfl s77 (by decide) rfl ?_
      refine Wp.goto 4 d_M_readDrain_34 (by decide) ?_
      exact H78
    · have H76 := H74 c72
      refine Wp.iload_n 1 1 d_M_readDrain_25 rfl rfl ?_
      refine Wp.iconst d_M_readDrain_26 (by decide) ?_
      refine Wp.iload_n 2 2 d_M_readDrain_27 rfl rfl ?_
      refine Wp.ishl d_M_readDrain_28 ?_
      refine Wp.ior d_M_readDrain_29 ?_
      refine Wp.istore_n 1 [(0, .inr (.inr 70)), (1, .inl (bOr x1 (bShl 1 x2))), (2, .inl x2)] d_M_readDrain_30 rfl (by decide) rfl ?_
      obtain ⟨s79, H80⟩ := H76
      refine Wp.iinc 2 2 [(0, .inr (.inr 70)), (1, .inl (bOr x1 (bShl 1 x2))), (2, .inl (x2 + 1))] d_M_readDrain_31 rfl s79 (by decide) rfl ?_
      refine Wp.goto 4 d_M_readDrain_34 (by decide) ?_
      exact H80
theorem d_M_readRule_0 : decode Y_M_readRule.2.1 0 = .ok (.aload_n 0, 1) := by decide +kernel
theorem d_M_readRule_1 : decode Y_M_readRule.2.1 1 = .ok (.getfield 36, 3) := by decide +kernel
theorem d_M_readRule_4 : decode Y_M_readRule.2.1 4 = .ok (.aload_n 0, 1) := by decide +kernel
theorem d_M_readRule_5 : decode Y_M_readRule.2.1 5 = .ok (.getfield 234, 3) := by decide +kernel
theorem d_M_readRule_8 : decode Y_M_readRule.2.1 8 = .ok (.dup2, 1) := by decide +kernel
theorem d_M_readRule_9 : decode Y_M_readRule.2.1 9 = .ok (.iaload, 1) := by decide +kernel
theorem d_M_readRule_10 : decode Y_M_readRule.2.1 10 = .ok (.iconst 1, 1) := by decide +kernel
theorem d_M_readRule_11 : decode Y_M_readRule.2.1 11 = .ok (.ior, 1) := by decide +kernel
theorem d_M_readRule_12 : decode Y_M_readRule.2.1 12 = .ok (.iastore, 1) := by decide +kernel
theorem d_M_readRule_13 : decode Y_M_readRule.2.1 13 = .ok (.aload_n 0, 1) := by decide +kernel
theorem d_M_readRule_14 : decode Y_M_readRule.2.1 14 = .ok (.iconst 0, 1) := by decide +kernel
theorem d_M_readRule_15 : decode Y_M_readRule.2.1 15 = .ok (.putfield 292, 3) := by decide +kernel
theorem d_M_readRule_18 : decode Y_M_readRule.2.1 18 = .ok (.aload_n 0, 1) := by decide +kernel
theorem d_M_readRule_19 : decode Y_M_readRule.2.1 19 = .ok (.getfield 48, 3) := by decide +kernel
theorem d_M_readRule_22 : decode Y_M_readRule.2.1 22 = .ok (.aload_n 0, 1) := by decide +kernel
theorem d_M_readRule_23 : decode Y_M_readRule.2.1 23 = .ok (.getfield 234, 3) := by decide +kernel
theorem d_M_readRule_26 : decode Y_M_readRule.2.1 26 = .ok (.aload_n 0, 1) := by decide +kernel
theorem d_M_readRule_27 : decode Y_M_readRule.2.1 27 = .ok (.getfield 237, 3) := by decide +kernel
theorem d_M_readRule_30 : decode Y_M_readRule.2.1 30 = .ok (.iastore, 1) := by decide +kernel
theorem d_M_readRule_31 : decode Y_M_readRule.2.1 31 = .ok (.aload_n 0, 1) := by decide +kernel
theorem d_M_readRule_32 : decode Y_M_readRule.2.1 32 = .ok (.invokevirtual 295, 3) := by decide +kernel
theorem d_M_readRule_35 : decode Y_M_readRule.2.1 35 = .ok (.aload_n 0, 1) := by decide +kernel
theorem d_M_readRule_36 : decode Y_M_readRule.2.1 36 = .ok (.getfield 51, 3) := by decide +kernel
theorem d_M_readRule_39 : decode Y_M_readRule.2.1 39 = .ok (.aload_n 0, 1) := by decide +kernel
theorem d_M_readRule_40 : decode Y_M_readRule.2.1 40 = .ok (.getfield 234, 3) := by decide +kernel
theorem d_M_readRule_43 : decode Y_M_readRule.2.1 43 = .ok (.aload_n 0, 1) := by decide +kernel
theorem d_M_readRule_44 : decode Y_M_readRule.2.1 44 = .ok (.getfield 237, 3) := by decide +kernel
theorem d_M_readRule_47 : decode Y_M_readRule.2.1 47 = .ok (.iastore, 1) := by decide +kernel
theorem d_M_readRule_48 : decode Y_M_readRule.2.1 48 = .ok (.return_, 1) := by decide +kernel
theorem e_M_readRule {l : Launch} {G : GT} {d : Nat} {P : MM → Prop} {m : MM}   (H : wfM m → (0 ≤ (m 70 29) ∧ (m 70 29) < (2 : Int)) ∧ ((0 ≤ (m 70 29) ∧ (m 70 29) < (2 : Int)) ∧ (∀ m3, m3 = up m 78 (m 70 29) (bOr (m 78 (m 70 29)) 1) → (∀ m8, m8 = up m3 70 33 0 → ((0 ≤ (m8 70 29) ∧ (m8 70 29) < (2 : Int)) ∧ (∀ m11, m11 = up m8 82 (m8 70 29) (m8 70 30) → (∃ (e16 : Nat) (P17 : MM → Prop), e16 < d ∧ CV l G Y_M_e e16 [.inr (.inr 70)] m11 P17 ∧ (∀ m23, P17 m23 → wfM m23 → ((0 ≤ (m23 70 29) ∧ (m23 70 29) < (2 : Int)) ∧ (∀ m27, m27 = up m23 83 (m23 70 29) (m23 70 30) → (P m27))))))))))) : CV l G Y_M_readRule d [.inr (.inr 70)] m P := by
  refine CV.of [(0, .inr (.inr 70))] k_M_readRule.1 (Nat.le_of_ble_eq_true rfl) rfl (Wp.wf (fun hw _ hl hs => ?_))
  have H0 := H hw
  refine Wp.aload_n 0 0 d_M_readRule_0 rfl rfl ?_
  refine Wp.getP 78 d_M_readRule_1 fl_M_36 rfl rfl rfl ?_
  refine Wp.aload_n 0 0 d_M_readRule_4 rfl rfl ?_
  refine Wq.getI 29 rfl d_M_readRule_5 fl_M_234 rfl (Or.inl rfl) ?_
  refine Wp.dup2 d_M_readRule_8 rfl rfl ?_
  obtain ⟨s1, H2⟩ := H0
  refine Wp.iald d_M_readRule_9 rfl (Or.inl rfl) s1.1 s1.2 ?_
  refine Wp.iconst d_M_readRule_10 (by decide) ?_
  refine Wp.ior d_M_readRule_11 ?_
  obtain ⟨s36, H37⟩ := H2
  refine Wq.iast d_M_readRule_12 rfl s36.1 s36.2 (fun m3 hm4 => ?_)
  have H5 := H37 m3 hm4
  refine Wp.aload_n 0 0 d_M_readRule_13 rfl rfl ?_
  refine Wp.iconst d_M_readRule_14 (by decide) ?_
  refine Wq.putI 33 rfl d_M_readRule_15 fl_M_292 (fun _ _ _ h => by cases h; rfl) rfl rfl rfl (fun m8 hm9 => ?_)
  have H10 := H5 m8 hm9
  refine Wp.aload_n 0 0 d_M_readRule_18 rfl rfl ?_
  refine Wp.getP 82 d_M_readRule_19 fl_M_48 rfl rfl rfl ?_
  refine Wp.aload_n 0 0 d_M_readRule_22 rfl rfl ?_
  refine Wq.getI 29 rfl d_M_readRule_23 fl_M_234 rfl (Or.inl rfl) ?_
  refine Wp.aload_n 0 0 d_M_readRule_26 rfl rfl ?_
  refine Wq.getI 30 rfl d_M_readRule_27 fl_M_237 rfl (Or.inl rfl) ?_
  obtain ⟨s34, H35⟩ := H10
  refine Wq.iast d_M_readRule_30 rfl s34.1 s34.2 (fun m11 hm12 => ?_)
  have H13 := H35 m11 hm12
  refine Wp.aload_n 0 0 d_M_readRule_31 rfl rfl ?_
  obtain ⟨e16, P17, hd18, ho19, H20⟩ := H13
  refine Wq.VV (st := []) [] d_M_readRule_32 k_M_e ml_M_295 rfl rfl rfl (fun h => by cases h) (Nat.le_of_ble_eq_true rfl) hd18 ho19 (fun m23 hp24 hw26 => ?_)
  have H21 := H20 m23 hp24 hw26
  refine Wp.aload_n 0 0 d_M_readRule_35 rfl rfl ?_
  refine Wp.getP 83 d_M_readRule_36 fl_M_51 rfl rfl rfl ?_
  refine Wp.aload_n 0 0 d_M_readRule_39 rfl rfl ?_
  refine Wq.getI 29 rfl d_M_readRule_40 fl_M_234 rfl (Or.inl rfl) ?_
  refine Wp.aload_n 0 0 d_M_readRule_43 rfl rfl ?_
  refine Wq.getI 30 rfl d_M_readRule_44 fl_M_237 rfl (Or.inl rfl) ?_
  obtain ⟨s32, H33⟩ := H21
  refine Wq.iast d_M_readRule_47 rfl s32.1 s32.2 (fun m27 hm28 => ?_)
  have H29 := H33 m27 hm28
  exact Wq.vret d_M_readRule_48 rfl H29
theorem d_M_e_0 : decode Y_M_e.2.1 0 = .ok (.aload_n 0, 1) := by decide +kernel
theorem d_M_e_1 : decode Y_M_e.2.1 1 = .ok (.iconst 0, 1) := by decide +kernel
theorem d_M_e_2 : decode Y_M_e.2.1 2 = .ok (.putfield 298, 3) := by decide +kernel
theorem d_M_e_5 : decode Y_M_e.2.1 5 = .ok (.aload_n 0, 1) := by decide +kernel
theorem d_M_e_6 : decode Y_M_e.2.1 6 = .ok (.iconst 0, 1) := by decide +kernel
theorem d_M_e_7 : decode Y_M_e.2.1 7 = .ok (.putfield 301, 3) := by decide +kernel
theorem d_M_e_10 : decode Y_M_e.2.1 10 = .ok (.aload_n 0, 1) := by decide +kernel
theorem d_M_e_11 : decode Y_M_e.2.1 11 = .ok (.bipush 8, 2) := by decide +kernel
theorem d_M_e_13 : decode Y_M_e.2.1 13 = .ok (.iconst 0, 1) := by decide +kernel
theorem d_M_e_14 : decode Y_M_e.2.1 14 = .ok (.invokevirtual 304, 3) := by decide +kernel
theorem d_M_e_17 : decode Y_M_e.2.1 17 = .ok (.iconst 1, 1) := by decide +kernel
theorem d_M_e_18 : decode Y_M_e.2.1 18 = .ok (.istore_n 1, 1) := by decide +kernel
theorem d_M_e_19 : decode Y_M_e.2.1 19 = .ok (.aload_n 0, 1) := by decide +kernel
theorem d_M_e_20 : decode Y_M_e.2.1 20 = .ok (.invokevirtual 217, 3) := by decide +kernel
theorem d_M_e_23 : decode Y_M_e.2.1 23 = .ok (.ifCond .eq 29, 3) := by decide +kernel
theorem d_M_e_26 : decode Y_M_e.2.1 26 = .ok (.aload_n 0, 1) := by decide +kernel
theorem d_M_e_27 : decode Y_M_e.2.1 27 = .ok (.getfield 298, 3) := by decide +kernel
theorem d_M_e_30 : decode Y_M_e.2.1 30 = .ok (.ifCond .le 22, 3) := by decide +kernel
theorem d_M_e_33 : decode Y_M_e.2.1 33 = .ok (.iload_n 1, 1) := by decide +kernel
theorem d_M_e_34 : decode Y_M_e.2.1 34 = .ok (.ifCond .eq 10, 3) := by decide +kernel
theorem d_M_e_37 : decode Y_M_e.2.1 37 = .ok (.aload_n 0, 1) := by decide +kernel
theorem d_M_e_38 : decode Y_M_e.2.1 38 = .ok (.invokevirtual 307, 3) := by decide +kernel
theorem d_M_e_41 : decode Y_M_e.2.1 41 = .ok (.goto 7, 3) := by decide +kernel
theorem d_M_e_44 : decode Y_M_e.2.1 44 = .ok (.aload_n 0, 1) := by decide +kernel
theorem d_M_e_45 : decode Y_M_e.2.1 45 = .ok (.invokevirtual 310, 3) := by decide +kernel
theorem d_M_e_48 : decode Y_M_e.2.1 48 = .ok (.istore_n 1, 1) := by decide +kernel
theorem d_M_e_49 : decode Y_M_e.2.1 49 = .ok (.goto (-30), 3) := by decide +kernel
theorem d_M_e_52 : decode Y_M_e.2.1 52 = .ok (.return_, 1) := by decide +kernel
theorem e_M_e {l : Launch} {G : GT} {d : Nat} {P : MM → Prop} {m : MM}   (H : wfM m → ∀ m1, m1 = up m 70 32 0 → (∀ m4, m4 = up m1 70 31 0 → (∃ (e7 : Nat) (P8 : MM → Prop), e7 < d ∧ CV l G Y_M_pushE e7 [.inr (.inr 70), .inl 8, .inl 0] m4 P8 ∧ (∀ m14, P8 m14 → wfM m14 → (Wq l G false Y_M_e d (QV P) 19 [(0, .inr (.inr 70)), (1, .inl 1)] [] m14))))) : CV l G Y_M_e d [.inr (.inr 70)] m P := by
  refine CV.of [(0, .inr (.inr 70))] k_M_e.1 (Nat.le_of_ble_eq_true rfl) rfl (Wp.wf (fun hw _ hl hs => ?_))
  have H0 := H hw
  refine Wp.aload_n 0 0 d_M_e_0 rfl rfl ?_
  refine Wp.iconst d_M_e_1 (by decide) ?_
  refine Wq.putI 32 rfl d_M_e_2 fl_M_298 (fun _ _ _ h => by cases h; rfl) rfl rfl rfl (fun m1 hm2 => ?_)
  have H3 := H0 m1 hm2
  refine Wp.aload_n 0 0 d_M_e_5 rfl rfl ?_
  refine Wp.iconst d_M_e_6 (by decide) ?_
  refine Wq.putI 31 rfl d_M_e_7 fl_M_301 (fun _ _ _ h => by cases h; rfl) rfl rfl rfl (fun m4 hm5 => ?_)
  have H6 := H3 m4 hm5
  refine Wp.aload_n 0 0 d_M_e_10 rfl rfl ?_
  refine Wp.bipush d_M_e_11 (by decide) (by decide) ?_
  refine Wp.iconst d_M_e_13 (by decide) ?_
  obtain ⟨e7, P8, hd9, ho10, H11⟩ := H6
  refine Wq.VV (st := []) [.inl 8, .inl 0] d_M_e_14 k_M_pushE ml_M_304 rfl rfl rfl (fun h => by cases h) (Nat.le_of_ble_eq_true rfl) hd9 ho10 (fun m14 hp15 hw17 => ?_)
  have H12 := H11 m14 hp15 hw17
  refine Wp.iconst d_M_e_17 (by decide) ?_
  refine Wp.istore_n 1 [(0, .inr (.inr 70)), (1, .inl 1)] d_M_e_18 rfl (by decide) rfl ?_
  exact H12
theorem s_M_e_19 {l : Launch} {G : GT} {d : Nat} {P : MM → Prop} {m : MM} (x1 : Int)  (H : wfM m → inR x1 → ∃ (e1 : Nat) (P2 : Int → MM → Prop), e1 < d ∧ CI l G Y_M_isGood e1 [.inr (.inr 70)] m P2 ∧ (∀ z7 m8, P2 z7 m8 → inR z7 → wfM m8 → ((z7 = 0 → (P m8)) ∧ (¬ (z7 = 0) → (((m8 70 32) ≤ 0 → (P m8)) ∧ (¬ ((m8 70 32) ≤ 0) → ((x1 = 0 → (∃ (e27 : Nat) (P28 : Int → MM → Prop), e27 < d ∧ CI l G Y_M_behindUnit e27 [.inr (.inr 70)] m8 P28 ∧ (∀ z33 m34, P28 z33 m34 → inR z33 → wfM m34 → (Wq l G false Y_M_e d (QV P) 19 [(0, .inr (.inr 70)), (1, .inl z33)] [] m34)))) ∧ (¬ (x1 = 0) → (∃ (e38 : Nat) (P39 : Int → MM → Prop), e38 < d ∧ CI l G Y_M_unit e38 [.inr (.inr 70)] m8 P39 ∧ (∀ z44 m45, P39 z44 m45 → inR z44 → wfM m45 → (Wq l G false Y_M_e d (QV P) 19 [(0, .inr (.inr 70)), (1, .inl z44)] [] m45))))))))))) : Wq l G false Y_M_e d (QV P) 19 [(0, .inr (.inr 70)), (1, .inl x1)] [] m := by
  refine Wp.wf (fun hw _ hl hs => ?_)
  have H0 := H hw (hl _ (List.mem_of_getElem? (i := 1) rfl))
  refine Wp.aload_n 0 0 d_M_e_19 rfl rfl ?_
  obtain ⟨e1, P2, hd3, ho4, H5⟩ := H0
  refine Wq.VI (st := []) [] d_M_e_20 k_M_isGood ml_M_217 rfl rfl rfl (fun h => by cases h) (Nat.le_of_ble_eq_true rfl) hd3 ho4 (fun z7 m8 hp9 hz10 hw11 => ?_)
  have H6 := H5 z7 m8 hp9 hz10 hw11
  obtain ⟨H13, H14⟩ := H6
  refine Wp.if_eq 52 d_M_e_23 (by decide) (fun c12 => ?_) (fun c12 => ?_)
  · have H15 := H13 c12
    exact Wq.vret d_M_e_52 rfl H15
  · have H16 := H14 c12
    refine Wp.aload_n 0 0 d_M_e_26 rfl rfl ?_
    refine Wq.getI 32 rfl d_M_e_27 fl_M_298 rfl (Or.inl rfl) ?_
    obtain ⟨H18, H19⟩ := H16
    refine Wp.if_le 52 d_M_e_30 (by decide) (fun c17 => ?_) (fun c17 => ?_)
    · have H20 := H18 c17
      exact Wq.vret d_M_e_52 rfl H20
    · have H21 := H19 c17
      refine Wp.iload_n 1 1 d_M_e_33 rfl rfl ?_
      obtain ⟨H23, H24⟩ := H21
      refine Wp.if_eq 44 d_M_e_34 (by decide) (fun c22 => ?_) (fun c22 => ?_)
      · have H25 := H23 c22
        refine Wp.aload_n 0 0 d_M_e_44 rfl rfl ?_
        obtain ⟨e27, P28, hd29, ho30, H31⟩ := H25
        refine Wq.VI (st := []) [] d_M_e_45 k_M_behindUnit ml_M_310 rfl rfl rfl (fun h => by cases h) (Nat.le_of_ble_eq_true rfl) hd29 ho30 (fun z33 m34 hp35 hz36 hw37 => ?_)
        have H32 := H31 z33 m34 hp35 hz36 hw37
        refine Wp.istore_n 1 [(0, .inr (.inr 70)), (1, .inl z33)] d_M_e_48 rfl (by decide) rfl ?_
        refine Wp.goto 19 d_M_e_49 (by decide) ?_
        exact H32
      · have H26 := H24 c22
        refine Wp.aload_n 0 0 d_M_e_37 rfl rfl ?_
        obtain ⟨e38, P39, hd40, ho41, H42⟩ := H26
        refine Wq.VI (st := []) [] d_M_e_38 k_M_unit ml_M_307 rfl rfl rfl (fun h => by cases h) (Nat.le_of_ble_eq_true rfl) hd40 ho41 (fun z44 m45 hp46 hz47 hw48 => ?_)
        have H43 := H42 z44 m45 hp46 hz47 hw48
        refine Wp.goto 48 d_M_e_41 (by decide) ?_
        refine Wp.istore_n 1 [(0, .inr (.inr 70)), (1, .inl z44)] d_M_e_48 rfl (by decide) rfl ?_
        refine Wp.goto 19 d_M_e_49 (by decide) ?_
        exact H43
theorem d_M_pushE_0 : decode Y_M_pushE.2.1 0 = .ok (.aload_n 0, 1) := by decide +kernel
theorem d_M_pushE_1 : decode Y_M_pushE.2.1 1 = .ok (.getfield 64, 3) := by decide +kernel
theorem d_M_pushE_4 : decode Y_M_pushE.2.1 4 = .ok (.aload_n 0, 1) := by decide +kernel
theorem d_M_pushE_5 : decode Y_M_pushE.2.1 5 = .ok (.getfield 298, 3) := by decide +kernel
theorem d_M_pushE_8 : decode Y_M_pushE.2.1 8 = .ok (.iload_n 1, 1) := by decide +kernel
theorem d_M_pushE_9 : decode Y_M_pushE.2.1 9 = .ok (.iastore, 1) := by decide +kernel
theorem d_M_pushE_10 : decode Y_M_pushE.2.1 10 = .ok (.aload_n 0, 1) := by decide +kernel
theorem d_M_pushE_11 : decode Y_M_pushE.2.1 11 = .ok (.getfield 67, 3) := by decide +kernel
theorem d_M_pushE_14 : decode Y_M_pushE.2.1 14 = .ok (.aload_n 0, 1) := by decide +kernel
theorem d_M_pushE_15 : decode Y_M_pushE.2.1 15 = .ok (.getfield 298, 3) := by decide +kernel
theorem d_M_pushE_18 : decode Y_M_pushE.2.1 18 = .ok (.iload_n 2, 1) := by decide +kernel
theorem d_M_pushE_19 : decode Y_M_pushE.2.1 19 = .ok (.iastore, 1) := by decide +kernel
theorem d_M_pushE_20 : decode Y_M_pushE.2.1 20 = .ok (.aload_n 0, 1) := by decide +kernel
theorem d_M_pushE_21 : decode Y_M_pushE.2.1 21 = .ok (.dup, 1) := by decide +kernel
theorem d_M_pushE_22 : decode Y_M_pushE.2.1 22 = .ok (.getfield 298, 3) := by decide +kernel
theorem d_M_pushE_25 : decode Y_M_pushE.2.1 25 = .ok (.iconst 1, 1) := by decide +kernel
theorem d_M_pushE_26 : decode Y_M_pushE.2.1 26 = .ok (.iadd, 1) := by decide +kernel
theorem d_M_pushE_27 : decode Y_M_pushE.2.1 27 = .ok (.putfield 298, 3) := by decide +kernel
theorem d_M_pushE_30 : decode Y_M_pushE.2.1 30 = .ok (.return_, 1) := by decide +kernel
theorem e_M_pushE {l : Launch} {G : GT} {d : Nat} {P : MM → Prop} {m : MM} (x1 : Int) (x2 : Int)  (H : wfM m → inR x1 → inR x2 → (0 ≤ (m 70 32) ∧ (m 70 32) < (90 : Int)) ∧ (∀ m1, m1 = up m 87 (m 70 32) x1 → ((0 ≤ (m1 70 32) ∧ (m1 70 32) < (90 : Int)) ∧ (∀ m6, m6 = up m1 88 (m1 70 32) x2 → ((inR ((m6 70 32) + 1)) ∧ (∀ m13, m13 = up m6 70 32 ((m6 70 32) + 1) → (P m13))))))) : CV l G Y_M_pushE d [.inr (.inr 70), .inl x1, .inl x2] m P := by
  refine CV.of [(0, .inr (.inr 70)), (1, .inl x1), (2, .inl x2)] k_M_pushE.1 (Nat.le_of_ble_eq_true rfl) rfl (Wp.wf (fun hw _ hl hs => ?_))
  have H0 := H hw (hl _ (List.mem_of_getElem? (i := 1) rfl)) (hl _ (List.mem_of_getElem? (i := 2) rfl))
  refine Wp.aload_n 0 0 d_M_pushE_0 rfl rfl ?_
  refine Wp.getP 87 d_M_pushE_1 fl_M_64 rfl rfl rfl ?_
  refine Wp.aload_n 0 0 d_M_pushE_4 rfl rfl ?_
  refine Wq.getI 32 rfl d_M_pushE_5 fl_M_298 rfl (Or.inl rfl) ?_
  refine Wp.iload_n 1 1 d_M_pushE_8 rfl rfl ?_
  obtain ⟨s18, H19⟩ := H0
  refine Wq.iast d_M_pushE_9 rfl s18.1 s18.2 (fun m1 hm2 => ?_)
  have H3 := H19 m1 hm2
  refine Wp.aload_n 0 0 d_M_pushE_10 rfl rfl ?_
  refine Wp.getP 88 d_M_pushE_11 fl_M_67 rfl rfl rfl ?_
  refine Wp.aload_n 0 0 d_M_pushE_14 rfl rfl ?_
  refine Wq.getI 32 rfl d_M_pushE_15 fl_M_298 rfl (Or.inl rfl) ?_
  refine Wp.iload_n 2 2 d_M_pushE_18 rfl rfl ?_
  obtain ⟨s16, H17⟩ := H3
  refine Wq.iast d_M_pushE_19 rfl s16.1 s16.2 (fun m6 hm7 => ?_)
  have H8 := H17 m6 hm7
  refine Wp.aload_n 0 0 d_M_pushE_20 rfl rfl ?_
  refine Wp.dup d_M_pushE_21 rfl ?_
  refine Wq.getI 32 rfl d_M_pushE_22 fl_M_298 rfl (Or.inl rfl) ?_
  refine Wp.iconst d_M_pushE_25 (by decide) ?_
  obtain ⟨s11, H12⟩ := H8
  refine Wp.iadd d_M_pushE_26 s11 ?_
  refine Wq.putI 32 rfl d_M_pushE_27 fl_M_298 (fun _ _ _ h => by cases h; rfl) rfl rfl rfl (fun m13 hm14 => ?_)
  have H15 := H12 m13 hm14
  exact Wq.vret d_M_pushE_30 rfl H15
theorem d_M_unit_0 : decode Y_M_unit.2.1 0 = .ok (.aload_n 0, 1) := by decide +kernel
theorem d_M_unit_1 : decode Y_M_unit.2.1 1 = .ok (.getfield 64, 3) := by decide +kernel
theorem d_M_unit_4 : decode Y_M_unit.2.1 4 = .ok (.aload_n 0, 1) := by decide +kernel
theorem d_M_unit_5 : decode Y_M_unit.2.1 5 = .ok (.getfield 298, 3) := by decide +kernel
theorem d_M_unit_8 : decode Y_M_unit.2.1 8 = .ok (.iconst 1, 1) := by decide +kernel
theorem d_M_unit_9 : decode Y_M_unit.2.1 9 = .ok (.isub, 1) := by decide +kernel
theorem d_M_unit_10 : decode Y_M_unit.2.1 10 = .ok (.iaload, 1) := by decide +kernel
theorem d_M_unit_11 : decode Y_M_unit.2.1 11 = .ok (.iconst 3, 1) := by decide +kernel
theorem d_M_unit_12 : decode Y_M_unit.2.1 12 = .ok (.if_icmp .le 19, 3) := by decide +kernel
theorem d_M_unit_15 : decode Y_M_unit.2.1 15 = .ok (.aload_n 0, 1) := by decide +kernel
theorem d_M_unit_16 : decode Y_M_unit.2.1 16 = .ok (.getfield 64, 3) := by decide +kernel
theorem d_M_unit_19 : decode Y_M_unit.2.1 19 = .ok (.aload_n 0, 1) := by decide +kernel
theorem d_M_unit_20 : decode Y_M_unit.2.1 20 = .ok (.getfield 298, 3) := by decide +kernel
theorem d_M_unit_23 : decode Y_M_unit.2.1 23 = .ok (.iconst 1, 1) := by decide +kernel
theorem d_M_unit_24 : decode Y_M_unit.2.1 24 = .ok (.isub, 1) := by decide +kernel
theorem d_M_unit_25 : decode Y_M_unit.2.1 25 = .ok (.iaload, 1) := by decide +kernel
theorem d_M_unit_26 : decode Y_M_unit.2.1 26 = .ok (.bipush 7, 2) := by decide +kernel
theorem d_M_unit_28 : decode Y_M_unit.2.1 28 = .ok (.if_icmp .lt 7, 3) := by decide +kernel
theorem d_M_unit_31 : decode Y_M_unit.2.1 31 = .ok (.iconst 1, 1) := by decide +kernel
theorem d_M_unit_32 : decode Y_M_unit.2.1 32 = .ok (.goto 4, 3) := by decide +kernel
theorem d_M_unit_35 : decode Y_M_unit.2.1 35 = .ok (.iconst 0, 1) := by decide +kernel
theorem d_M_unit_36 : decode Y_M_unit.2.1 36 = .ok (.istore_n 1, 1) := by decide +kernel
theorem d_M_unit_37 : decode Y_M_unit.2.1 37 = .ok (.iload_n 1, 1) := by decide +kernel
theorem d_M_unit_38 : decode Y_M_unit.2.1 38 = .ok (.ifCond .eq 17, 3) := by decide +kernel
theorem d_M_unit_41 : decode Y_M_unit.2.1 41 = .ok (.aload_n 0, 1) := by decide +kernel
theorem d_M_unit_42 : decode Y_M_unit.2.1 42 = .ok (.ldc2_w 177, 3) := by decide +kernel
theorem d_M_unit_45 : decode Y_M_unit.2.1 45 = .ok (.invokevirtual 227, 3) := by decide +kernel
theorem d_M_unit_48 : decode Y_M_unit.2.1 48 = .ok (.ifCond .eq 7, 3) := by decide +kernel
theorem d_M_unit_51 : decode Y_M_unit.2.1 51 = .ok (.iconst 1, 1) := by decide +kernel
theorem d_M_unit_52 : decode Y_M_unit.2.1 52 = .ok (.goto 4, 3) := by decide +kernel
theorem d_M_unit_55 : decode Y_M_unit.2.1 55 = .ok (.iconst 0, 1) := by decide +kernel
theorem d_M_unit_56 : decode Y_M_unit.2.1 56 = .ok (.istore_n 2, 1) := by decide +kernel
theorem d_M_unit_57 : decode Y_M_unit.2.1 57 = .ok (.aload_n 0, 1) := by decide +kernel
theorem d_M_unit_58 : decode Y_M_unit.2.1 58 = .ok (.bipush 40, 2) := by decide +kernel
theorem d_M_unit_60 : decode Y_M_unit.2.1 60 = .ok (.invokevirtual 274, 3) := by decide +kernel
theorem d_M_unit_63 : decode Y_M_unit.2.1 63 = .ok (.istore_n 3, 1) := by decide +kernel
theorem d_M_unit_64 : decode Y_M_unit.2.1 64 = .ok (.aload_n 0, 1) := by decide +kernel
theorem d_M_unit_65 : decode Y_M_unit.2.1 65 = .ok (.invokevirtual 313, 3) := by decide +kernel
theorem d_M_unit_68 : decode Y_M_unit.2.1 68 = .ok (.istore 4, 2) := by decide +kernel
theorem d_M_unit_70 : decode Y_M_unit.2.1 70 = .ok (.aload_n 0, 1) := by decide +kernel
theorem d_M_unit_71 : decode Y_M_unit.2.1 71 = .ok (.getfield 27, 3) := by decide +kernel
theorem d_M_unit_74 : decode Y_M_unit.2.1 74 = .ok (.aload_n 0, 1) := by decide +kernel
theorem d_M_unit_75 : decode Y_M_unit.2.1 75 = .ok (.getfield 234, 3) := by decide +kernel
theorem d_M_unit_78 : decode Y_M_unit.2.1 78 = .ok (.iaload, 1) := by decide +kernel
theorem d_M_unit_79 : decode Y_M_unit.2.1 79 = .ok (.bipush 60, 2) := by decide +kernel
theorem d_M_unit_81 : decode Y_M_unit.2.1 81 = .ok (.if_icmp .eq 12, 3) := by decide +kernel
theorem d_M_unit_84 : decode Y_M_unit.2.1 84 = .ok (.aload_n 0, 1) := by decide +kernel
theorem d_M_unit_85 : decode Y_M_unit.2.1 85 = .ok (.getfield 292, 3) := by decide +kernel
theorem d_M_unit_88 : decode Y_M_unit.2.1 88 = .ok (.bipush 30, 2) := by decide +kernel
theorem d_M_unit_90 : decode Y_M_unit.2.1 90 = .ok (.if_icmp .ne 7, 3) := by decide +kernel
theorem d_M_unit_93 : decode Y_M_unit.2.1 93 = .ok (.iconst 1, 1) := by decide +kernel
theorem d_M_unit_94 : decode Y_M_unit.2.1 94 = .ok (.goto 4, 3) := by decide +kernel
theorem d_M_unit_97 : decode Y_M_unit.2.1 97 = .ok (.iconst 0, 1) := by decide +kernel
theorem d_M_unit_98 : decode Y_M_unit.2.1 98 = .ok (.istore 5, 2) := by decide +kernel
theorem d_M_unit_100 : decode Y_M_unit.2.1 100 = .ok (.iload_n 2, 1) := by decide +kernel
theorem d_M_unit_101 : decode Y_M_unit.2.1 101 = .ok (.ifCond .ne 25, 3) := by decide +kernel
theorem d_M_unit_104 : decode Y_M_unit.2.1 104 = .ok (.iload 4, 2) := by decide +kernel
theorem d_M_unit_106 : decode Y_M_unit.2.1 106 = .ok (.ifCond .ne 15, 3) := by decide +kernel
theorem d_M_unit_109 : decode Y_M_unit.2.1 109 = .ok (.aload_n 0, 1) := by decide +kernel
theorem d_M_unit_110 : decode Y_M_unit.2.1 110 = .ok (.getfield 189, 3) := by decide +kernel
theorem d_M_unit_113 : decode Y_M_unit.2.1 113 = .ok (.iconst 4, 1) := by decide +kernel
theorem d_M_unit_114 : decode Y_M_unit.2.1 114 = .ok (.if_icmp .eq 7, 3) := by decide +kernel
theorem d_M_unit_117 : decode Y_M_unit.2.1 117 = .ok (.iload_n 3, 1) := by decide +kernel
theorem d_M_unit_118 : decode Y_M_unit.2.1 118 = .ok (.ifCond .eq 25, 3) := by decide +kernel
theorem d_M_unit_121 : decode Y_M_unit.2.1 121 = .ok (.iload 5, 2) := by decide +kernel
theorem d_M_unit_123 : decode Y_M_unit.2.1 123 = .ok (.ifCond .ne 20, 3) := by decide +kernel
theorem d_M_unit_126 : decode Y_M_unit.2.1 126 = .ok (.iload_n 2, 1) := by decide +kernel
theorem d_M_unit_127 : decode Y_M_unit.2.1 127 = .ok (.ifCond .ne 7, 3) := by decide +kernel
theorem d_M_unit_130 : decode Y_M_unit.2.1 130 = .ok (.iload_n 3, 1) := by decide +kernel
theorem d_M_unit_131 : decode Y_M_unit.2.1 131 = .ok (.ifCond .eq 16, 3) := by decide +kernel
theorem d_M_unit_134 : decode Y_M_unit.2.1 134 = .ok (.aload_n 0, 1) := by decide +kernel
theorem d_M_unit_135 : decode Y_M_unit.2.1 135 = .ok (.getfield 301, 3) := by decide +kernel
theorem d_M_unit_138 : decode Y_M_unit.2.1 138 = .ok (.bipush 7, 2) := by decide +kernel
theorem d_M_unit_140 : decode Y_M_unit.2.1 140 = .ok (.if_icmp .ne 7, 3) := by decide +kernel
theorem d_M_unit_143 : decode Y_M_unit.2.1 143 = .ok (.aload_n 0, 1) := by decide +kernel
theorem d_M_unit_144 : decode Y_M_unit.2.1 144 = .ok (.invokevirtual 224, 3) := by decide +kernel
theorem d_M_unit_147 : decode Y_M_unit.2.1 147 = .ok (.aload_n 0, 1) := by decide +kernel
theorem d_M_unit_148 : decode Y_M_unit.2.1 148 = .ok (.invokevirtual 217, 3) := by decide +kernel
theorem d_M_unit_151 : decode Y_M_unit.2.1 151 = .ok (.ifCond .ne 5, 3) := by decide +kernel
theorem d_M_unit_154 : decode Y_M_unit.2.1 154 = .ok (.iconst 1, 1) := by decide +kernel
theorem d_M_unit_155 : decode Y_M_unit.2.1 155 = .ok (.ireturn, 1) := by decide +kernel
theorem d_M_unit_156 : decode Y_M_unit.2.1 156 = .ok (.aload_n 0, 1) := by decide +kernel
theorem d_M_unit_157 : decode Y_M_unit.2.1 157 = .ok (.getfield 27, 3) := by decide +kernel
theorem d_M_unit_160 : decode Y_M_unit.2.1 160 = .ok (.aload_n 0, 1) := by decide +kernel
theorem d_M_unit_161 : decode Y_M_unit.2.1 161 = .ok (.getfield 234, 3) := by decide +kernel
theorem d_M_unit_164 : decode Y_M_unit.2.1 164 = .ok (.dup2, 1) := by decide +kernel
theorem d_M_unit_165 : decode Y_M_unit.2.1 165 = .ok (.iaload, 1) := by decide +kernel
theorem d_M_unit_166 : decode Y_M_unit.2.1 166 = .ok (.iload_n 2, 1) := by decide +kernel
theorem d_M_unit_167 : decode Y_M_unit.2.1 167 = .ok (.ifCond .eq 7, 3) := by decide +kernel
theorem d_M_unit_170 : decode Y_M_unit.2.1 170 = .ok (.iconst 0, 1) := by decide +kernel
theorem d_M_unit_171 : decode Y_M_unit.2.1 171 = .ok (.goto 4, 3) := by decide +kernel
theorem d_M_unit_174 : decode Y_M_unit.2.1 174 = .ok (.iconst 1, 1) := by decide +kernel
theorem d_M_unit_175 : decode Y_M_unit.2.1 175 = .ok (.iadd, 1) := by decide +kernel
theorem d_M_unit_176 : decode Y_M_unit.2.1 176 = .ok (.iastore, 1) := by decide +kernel
theorem d_M_unit_177 : decode Y_M_unit.2.1 177 = .ok (.aload_n 0, 1) := by decide +kernel
theorem d_M_unit_178 : decode Y_M_unit.2.1 178 = .ok (.dup, 1) := by decide +kernel
theorem d_M_unit_179 : decode Y_M_unit.2.1 179 = .ok (.getfield 292, 3) := by decide +kernel
theorem d_M_unit_182 : decode Y_M_unit.2.1 182 = .ok (.iload_n 2, 1) := by decide +kernel
theorem d_M_unit_183 : decode Y_M_unit.2.1 183 = .ok (.ifCond .eq 7, 3) := by decide +kernel
theorem d_M_unit_186 : decode Y_M_unit.2.1 186 = .ok (.iconst 0, 1) := by decide +kernel
theorem d_M_unit_187 : decode Y_M_unit.2.1 187 = .ok (.goto 4, 3) := by decide +kernel
theorem d_M_unit_190 : decode Y_M_unit.2.1 190 = .ok (.iconst 1, 1) := by decide +kernel
theorem d_M_unit_191 : decode Y_M_unit.2.1 191 = .ok (.iadd, 1) := by decide +kernel
theorem d_M_unit_192 : decode Y_M_unit.2.1 192 = .ok (.putfield 292, 3) := by decide +kernel
theorem d_M_unit_195 : decode Y_M_unit.2.1 195 = .ok (.iload 4, 2) := by decide +kernel
theorem d_M_unit_197 : decode Y_M_unit.2.1 197 = .ok (.ifCond .ne 10, 3) := by decide +kernel
theorem d_M_unit_200 : decode Y_M_unit.2.1 200 = .ok (.aload_n 0, 1) := by decide +kernel
theorem d_M_unit_201 : decode Y_M_unit.2.1 201 = .ok (.getfield 207, 3) := by decide +kernel
theorem d_M_unit_204 : decode Y_M_unit.2.1 204 = .ok (.goto 4, 3) := by decide +kernel
theorem d_M_unit_207 : decode Y_M_unit.2.1 207 = .ok (.iconst 0, 1) := by decide +kernel
theorem d_M_unit_208 : decode Y_M_unit.2.1 208 = .ok (.istore 6, 2) := by decide +kernel
theorem d_M_unit_210 : decode Y_M_unit.2.1 210 = .ok (.aload_n 0, 1) := by decide +kernel
theorem d_M_unit_211 : decode Y_M_unit.2.1 211 = .ok (.invokevirtual 221, 3) := by decide +kernel
theorem d_M_unit_214 : decode Y_M_unit.2.1 214 = .ok (.iload_n 2, 1) := by decide +kernel
theorem d_M_unit_215 : decode Y_M_unit.2.1 215 = .ok (.ifCond .ne 7, 3) := by decide +kernel
theorem d_M_unit_218 : decode Y_M_unit.2.1 218 = .ok (.iload_n 3, 1) := by decide +kernel
theorem d_M_unit_219 : decode Y_M_unit.2.1 219 = .ok (.ifCond .eq 31, 3) := by decide +kernel
theorem d_M_unit_222 : decode Y_M_unit.2.1 222 = .ok (.aload_n 0, 1) := by decide +kernel
theorem d_M_unit_223 : decode Y_M_unit.2.1 223 = .ok (.iload_n 2, 1) := by decide +kernel
theorem d_M_unit_224 : decode Y_M_unit.2.1 224 = .ok (.ifCond .eq 7, 3) := by decide +kernel
theorem d_M_unit_227 : decode Y_M_unit.2.1 227 = .ok (.iconst 3, 1) := by decide +kernel
theorem d_M_unit_228 : decode Y_M_unit.2.1 228 = .ok (.goto 5, 3) := by decide +kernel
theorem d_M_unit_231 : decode Y_M_unit.2.1 231 = .ok (.bipush 7, 2) := by decide +kernel
theorem d_M_unit_233 : decode Y_M_unit.2.1 233 = .ok (.bipush 126, 2) := by decide +kernel
theorem d_M_unit_235 : decode Y_M_unit.2.1 235 = .ok (.invokevirtual 304, 3) := by decide +kernel
theorem d_M_unit_238 : decode Y_M_unit.2.1 238 = .ok (.aload_n 0, 1) := by decide +kernel
theorem d_M_unit_239 : decode Y_M_unit.2.1 239 = .ok (.dup, 1) := by decide +kernel
theorem d_M_unit_240 : decode Y_M_unit.2.1 240 = .ok (.getfield 301, 3) := by decide +kernel
theorem d_M_unit_243 : decode Y_M_unit.2.1 243 = .ok (.iconst 1, 1) := by decide +kernel
theorem d_M_unit_244 : decode Y_M_unit.2.1 244 = .ok (.iadd, 1) := by decide +kernel
theorem d_M_unit_245 : decode Y_M_unit.2.1 245 = .ok (.putfield 301, 3) := by decide +kernel
theorem d_M_unit_248 : decode Y_M_unit.2.1 248 = .ok (.iconst 1, 1) := by decide +kernel
theorem d_M_unit_249 : decode Y_M_unit.2.1 249 = .ok (.ireturn, 1) := by decide +kernel
theorem d_M_unit_250 : decode Y_M_unit.2.1 250 = .ok (.aload_n 0, 1) := by decide +kernel
theorem d_M_unit_251 : decode Y_M_unit.2.1 251 = .ok (.iload 4, 2) := by decide +kernel
theorem d_M_unit_253 : decode Y_M_unit.2.1 253 = .ok (.ifCond .ne 8, 3) := by decide +kernel
theorem d_M_unit_256 : decode Y_M_unit.2.1 256 = .ok (.bipush 110, 2) := by decide +kernel
theorem d_M_unit_258 : decode Y_M_unit.2.1 258 = .ok (.goto 5, 3) := by decide +kernel
theorem d_M_unit_261 : decode Y_M_unit.2.1 261 = .ok (.iload 4, 2) := by decide +kernel
theorem d_M_unit_263 : decode Y_M_unit.2.1 263 = .ok (.iload 6, 2) := by decide +kernel
theorem d_M_unit_265 : decode Y_M_unit.2.1 265 = .ok (.invokevirtual 316, 3) := by decide +kernel
theorem d_M_unit_268 : decode Y_M_unit.2.1 268 = .ok (.iconst 0, 1) := by decide +kernel
theorem d_M_unit_269 : decode Y_M_unit.2.1 269 = .ok (.ireturn, 1) := by decide +kernel
theorem e_M_unit {l : Launch} {G : GT} {d : Nat} {P : Int → MM → Prop} {m : MM}   (H : wfM m → (inR ((m 70 32) - 1)) ∧ ((0 ≤ ((m 70 32) - 1) ∧ ((m 70 32) - 1) < (90 : Int)) ∧ (((m 87 ((m 70 32) - 1)) ≤ 3 → (∃ (e10 : Nat) (P11 : Int → MM → Prop), e10 < d ∧ CI l G Y_M_isWord e10 [.inr (.inr 70), .inr (.inl 7237492)] m P11 ∧ (∀ z16 m17, P11 z16 m17 → inR z16 → wfM m17 → ((z16 = 0 → (Wq l G false Y_M_unit d (QI P) 56 [(0, .inr (.inr 70))] [.inl 0] m17)) ∧ (¬ (z16 = 0) → (Wq l G false Y_M_unit d (QI P) 56 [(0, .inr (.inr 70))] [.inl 1] m17)))))) ∧ (¬ ((m 87 ((m 70 32) - 1)) ≤ 3) → ((inR ((m 70 32) - 1)) ∧ ((0 ≤ ((m 70 32) - 1) ∧ ((m 70 32) - 1) < (90 : Int)) ∧ (((m 87 ((m 70 32) - 1)) < 7 → (Wq l G false Y_M_unit d (QI P) 56 [(0, .inr (.inr 70))] [.inl 0] m)) ∧ (¬ ((m 87 ((m 70 32) - 1)) < 7) → (∃ (e35 : Nat) (P36 : Int → MM → Prop), e35 < d ∧ CI l G Y_M_isWord e35 [.inr (.inr 70), .inr (.inl 7237492)] m P36 ∧ (∀ z41 m42, P36 z41 m42 → inR z41 → wfM m42 → ((z41 = 0 → (Wq l G false Y_M_unit d (QI P) 56 [(0, .inr (.inr 70))] [.inl 0] m42)) ∧ (¬ (z41 = 0) → (Wq l G false Y_M_unit d (QI P) 56 [(0, .inr (.inr 70))] [.inl 1] m42))))))))))))) : CI l G Y_M_unit d [.inr (.inr 70)] m P := by
  refine CI.of [(0, .inr (.inr 70))] k_M_unit.1 (Nat.le_of_ble_eq_true rfl) rfl (Wp.wf (fun hw _ hl hs => ?_))
  have H0 := H hw
  refine Wp.aload_n 0 0 d_M_unit_0 rfl rfl ?_
  refine Wp.getP 87 d_M_unit_1 fl_M_64 rfl rfl rfl ?_
  refine Wp.aload_n 0 0 d_M_unit_4 rfl rfl ?_
  refine Wq.getI 32 rfl d_M_unit_5 fl_M_298 rfl (Or.inl rfl) ?_
  refine Wp.iconst d_M_unit_8 (by decide) ?_
  obtain ⟨s1, H2⟩ := H0
  refine Wp.isub d_M_unit_9 s1 ?_
  obtain ⟨s3, H4⟩ := H2
  refine Wp.iald d_M_unit_10 rfl (Or.inl rfl) s3.1 s3.2 ?_
  refine Wp.iconst d_M_unit_11 (by decide) ?_
  obtain ⟨H6, H7⟩ := H4
  refine Wp.icmp_le 31 d_M_unit_12 (by decide) (fun c5 => ?_) (fun c5 => ?_)
  · have H8 := H6 c5
    refine Wp.iconst d_M_unit_31 (by decide) ?_
    refine Wp.goto 36 d_M_unit_32 (by decide) ?_
    refine Wp.istore_n 1 [(0, .inr (.inr 70)), (1, .inl 1)] d_M_unit_36 rfl (by decide) rfl ?_
    refine Wp.iload_n 1 1 d_M_unit_37 rfl rfl ?_
    refine Wp.if_eq 55 d_M_unit_38 (by decide) (fun c => absurd c (by decide)) (fun _ => ?_)
    refine Wp.aload_n 0 0 d_M_unit_41 rfl rfl ?_
    refine Wp.ldc2 (z := 7237492) d_M_unit_42 kl_M_177 (by decide) (by decide) ?_
    obtain ⟨e10, P11, hd12, ho13, H14⟩ := H8
    refine Wq.VI (st := []) [.inr (.inl 7237492)] d_M_unit_45 k_M_isWord ml_M_227 rfl rfl rfl (fun h => by cases h) (Nat.le_of_ble_eq_true rfl) hd12 ho13 (fun z16 m17 hp18 hz19 hw20 => ?_)
    have H15 := H14 z16 m17 hp18 hz19 hw20
    obtain ⟨H22, H23⟩ := H15
    refine Wp.if_eq 55 d_M_unit_48 (by decide) (fun c21 => ?_) (fun c21 => ?_)
    · have H24 := H22 c21
      refine Wp.iconst d_M_unit_55 (by decide) ?_
      refine Wp.pick [0] [(0, .inr (.inr 70))] rfl ?_
      exact H24
    · have H25 := H23 c21
      refine Wp.iconst d_M_unit_51 (by decide) ?_
      refine Wp.goto 56 d_M_unit_52 (by decide) ?_
      refine Wp.pick [0] [(0, .inr (.inr 70))] rfl ?_
      exact H25
  · have H9 := H7 c5
    refine Wp.aload_n 0 0 d_M_unit_15 rfl rfl ?_
    refine Wp.getP 87 d_M_unit_16 fl_M_64 rfl rfl rfl ?_
    refine Wp.aload_n 0 0 d_M_unit_19 rfl rfl ?_
    refine Wq.getI 32 rfl d_M_unit_20 fl_M_298 rfl (Or.inl rfl) ?_
    refine Wp.iconst d_M_unit_23 (by decide) ?_
    obtain ⟨s26, H27⟩ := H9
    refine Wp.isub d_M_unit_24 s26 ?_
    obtain ⟨s28, H29⟩ := H27
    refine Wp.iald d_M_unit_25 rfl (Or.inl rfl) s28.1 s28.2 ?_
    refine Wp.bipush d_M_unit_26 (by decide) (by decide) ?_
    obtain ⟨H31, H32⟩ := H29
    refine Wp.icmp_lt 35 d_M_unit_28 (by decide) (fun c30 => ?_) (fun c30 => ?_)
    · have H33 := H31 c30
      refine Wp.iconst d_M_unit_35 (by decide) ?_
      refine Wp.istore_n 1 [(0, .inr (.inr 70)), (1, .inl 0)] d_M_unit_36 rfl (by decide) rfl ?_
      refine Wp.iload_n 1 1 d_M_unit_37 rfl rfl ?_
      refine Wp.if_eq 55 d_M_unit_38 (by decide) (fun _ => ?_) (fun c => absurd (by decide) c)
      refine Wp.iconst d_M_unit_55 (by decide) ?_
      refine Wp.pick [0] [(0, .inr (.inr 70))] rfl ?_
      exact H33
    · have H34 := H32 c30
      refine Wp.iconst d_M_unit_31 (by decide) ?_
      refine Wp.goto 36 d_M_unit_32 (by decide) ?_
      refine Wp.istore_n 1 [(0, .inr (.inr 70)), (1, .inl 1)] d_M_unit_36 rfl (by decide) rfl ?_
      refine Wp.iload_n 1 1 d_M_unit_37 rfl rfl ?_
      refine Wp.if_eq 55 d_M_unit_38 (by decide) (fun c => absurd c (by decide)) (fun _ => ?_)
      refine Wp.aload_n 0 0 d_M_unit_41 rfl rfl ?_
      refine Wp.ldc2 (z := 7237492) d_M_unit_42 kl_M_177 (by decide) (by decide) ?_
      obtain ⟨e35, P36, hd37, ho38, H39⟩ := H34
      refine Wq.VI (st := []) [.inr (.inl 7237492)] d_M_unit_45 k_M_isWord ml_M_227 rfl rfl rfl (fun h => by cases h) (Nat.le_of_ble_eq_true rfl) hd37 ho38 (fun z41 m42 hp43 hz44 hw45 => ?_)
      have H40 := H39 z41 m42 hp43 hz44 hw45
      obtain ⟨H47, H48⟩ := H40
      refine Wp.if_eq 55 d_M_unit_48 (by decide) (fun c46 => ?_) (fun c46 => ?_)
      · have H49 := H47 c46
        refine Wp.iconst d_M_unit_55 (by decide) ?_
        refine Wp.pick [0] [(0, .inr (.inr 70))] rfl ?_
        exact H49
      · have H50 := H48 c46
        refine Wp.iconst d_M_unit_51 (by decide) ?_
        refine Wp.goto 56 d_M_unit_52 (by decide) ?_
        refine Wp.pick [0] [(0, .inr (.inr 70))] rfl ?_
        exact H50
theorem s_M_unit_56 {l : Launch} {G : GT} {d : Nat} {P : Int → MM → Prop} {m : MM} (y0 : Int)  (H : wfM m → inR y0 → ∃ (e1 : Nat) (P2 : Int → MM → Prop), e1 < d ∧ CI l G Y_M_isSignHere e1 [.inr (.inr 70), .inl 40] m P2 ∧ (∀ z7 m8, P2 z7 m8 → inR z7 → wfM m8 → (∃ (e12 : Nat) (P13 : Int → MM → Prop), e12 < d ∧ CI l G Y_M_wordHere e12 [.inr (.inr 70)] m8 P13 ∧ (∀ z18 m19, P13 z18 m19 → inR z18 → wfM m19 → ((0 ≤ (m19 70 29) ∧ (m19 70 29) < (2 : Int)) ∧ (((m19 75 (m19 70 29)) = 60 → ((y0 ≠ 0 → ((y0 ≠ 0 → (((m19 70 31) ≠ 7 → (Wq l G false Y_M_unit d (QI P) 147 [(0, .inr (.inr 70)), (2, .inl y0), (3, .inl z7), (4, .inl z18)] [] m19)) ∧ (¬ ((m19 70 31) ≠ 7) → (∃ (e45 : Nat) (P46 : MM → Prop), e45 < d ∧ CV l G Y_M_misplaced e45 [.inr (.inr 70)] m19 P46 ∧ (∀ m52, P46 m52 → wfM m52 → (Wq l G false Y_M_unit d (QI P) 147 [(0, .inr (.inr 70)), (2, .inl y0), (3, .inl z7), (4, .inl z18)] [] m52)))))) ∧ (¬ (y0 ≠ 0) → ((z7 = 0 → (Wq l G false Y_M_unit d (QI P) 147 [(0, .inr (.inr 70)), (2, .inl y0), (3, .inl z7), (4, .inl z18)] [] m19)) ∧ (¬ (z7 = 0) → (((m19 70 31) ≠ 7 → (Wq l G false Y_M_unit d (QI P) 147 [(0, .inr (.inr 70)), (2, .inl y0), (3, .inl z7), (4, .inl z18)] [] m19)) ∧ (¬ ((m19 70 31) ≠ 7) → (∃ (e66 : Nat) (P67 : MM → Prop), e66 < d ∧ CV l G Y_M_misplaced e66 [.inr (.inr 70)] m19 P67 ∧ (∀ m73, P67 m73 → wfM m73 → (Wq l G false Y_M_unit d (QI P) 147 [(0, .inr (.inr 70)), (2, .inl y0), (3, .inl z7), (4, .inl z18)] [] m73)))))))))) ∧ (¬ (y0 ≠ 0) → ((z18 ≠ 0 → (∃ (e82 : Nat) (P83 : MM → Prop), e82 < d ∧ CV l G Y_M_misplaced e82 [.inr (.inr 70)] m19 P83 ∧ (∀ m89, P83 m89 → wfM m89 → (Wq l G false Y_M_unit d (QI P) 147 [(0, .inr (.inr 70)), (2, .inl y0), (3, .inl z7), (4, .inl z18)] [] m89)))) ∧ (¬ (z18 ≠ 0) → (((m19 70 8) = 4 → (∃ (e98 : Nat) (P99 : MM → Prop), e98 < d ∧ CV l G Y_M_misplaced e98 [.inr (.inr 70)] m19 P99 ∧ (∀ m105, P99 m105 → wfM m105 → (Wq l G false Y_M_unit d (QI P) 147 [(0, .inr (.inr 70)), (2, .inl y0), (3, .inl z7), (4, .inl z18)] [] m105)))) ∧ (¬ ((m19 70 8) = 4) → ((z7 = 0 → (∃ (e114 : Nat) (P115 : MM → Prop), e114 < d ∧ CV l G Y_M_misplaced e114 [.inr (.inr 70)] m19 P115 ∧ (∀ m121, P115 m121 → wfM m121 → (Wq l G false Y_M_unit d (QI P) 147 [(0, .inr (.inr 70)), (2, .inl y0), (3, .inl z7), (4, .inl z18)] [] m121)))) ∧ (¬ (z7 = 0) → (∃ (e125 : Nat) (P126 : MM → Prop), e125 < d ∧ CV l G Y_M_misplaced e125 [.inr (.inr 70)] m19 P126 ∧ (∀ m132, P126 m132 → wfM m132 → (Wq l G false Y_M_unit d (QI P) 147 [(0, .inr (.inr 70)), (2, .inl y0), (3, .inl z7), (4, .inl z18)] [] m132)))))))))))) ∧ (¬ ((m19 75 (m19 70 29)) = 60) → (((m19 70 33) ≠ 30 → ((y0 ≠ 0 → ((y0 ≠ 0 → (((m19 70 31) ≠ 7 → (Wq l G false Y_M_unit d (QI P) 147 [(0, .inr (.inr 70)), (2, .inl y0), (3, .inl z7), (4, .inl z18)] [] m19)) ∧ (¬ ((m19 70 31) ≠ 7) → (∃ (e156 : Nat) (P157 : MM → Prop), e156 < d ∧ CV l G Y_M_misplaced e156 [.inr (.inr 70)] m19 P157 ∧ (∀ m163, P157 m163 → wfM m163 → (Wq l G false Y_M_unit d (QI P) 147 [(0, .inr (.inr 70)), (2, .inl y0), (3, .inl z7), (4, .inl z18)] [] m163)))))) ∧ (¬ (y0 ≠ 0) → ((z7 = 0 → (Wq l G false Y_M_unit d (QI P) 147 [(0, .inr (.inr 70)), (2, .inl y0), (3, .inl z7), (4, .inl z18)] [] m19)) ∧ (¬ (z7 = 0) → (((m19 70 31) ≠ 7 → (Wq l G false Y_M_unit d (QI P) 147 [(0, .inr (.inr 70)), (2, .inl y0), (3, .inl z7), (4, .inl z18)] [] m19)) ∧ (¬ ((m19 70 31) ≠ 7) → (∃ (e177 : Nat) (P178 : MM → Prop), e177 < d ∧ CV l G Y_M_misplaced e177 [.inr (.inr 70)] m19 P178 ∧ (∀ m184, P178 m184 → wfM m184 → (Wq l G false Y_M_unit d (QI P) 147 [(0, .inr (.inr 70)), (2, .inl y0), (3, .inl z7), (4, .inl z18)] [] m184)))))))))) ∧ (¬ (y0 ≠ 0) → ((z18 ≠ 0 → ((y0 ≠ 0 → (((m19 70 31) ≠ 7 → (Wq l G false Y_M_unit d (QI P) 147 [(0, .inr (.inr 70)), (2, .inl y0), (3, .inl z7), (4, .inl z18)] [] m19)) ∧ (¬ ((m19 70 31) ≠ 7) → (∃ (e203 : Nat) (P204 : MM → Prop), e203 < d ∧ CV l G Y_M_misplaced e203 [.inr (.inr 70)] m19 P204 ∧ (∀ m210, P204 m210 → wfM m210 → (Wq l G false Y_M_unit d (QI P) 147 [(0, .inr (.inr 70)), (2, .inl y0), (3, .inl z7), (4, .inl z18)] [] m210)))))) ∧ (¬ (y0 ≠ 0) → ((z7 = 0 → (Wq l G false Y_M_unit d (QI P) 147 [(0, .inr (.inr 70)), (2, .inl y0), (3, .inl z7), (4, .inl z18)] [] m19)) ∧ (¬ (z7 = 0) → (((m19 70 31) ≠ 7 → (Wq l G false Y_M_unit d (QI P) 147 [(0, .inr (.inr 70)), (2, .inl y0), (3, .inl z7), (4, .inl z18)] [] m19)) ∧ (¬ ((m19 70 31) ≠ 7) → (∃ (e224 : Nat) (P225 : MM → Prop), e224 < d ∧ CV l G Y_M_misplaced e224 [.inr (.inr 70)] m19 P225 ∧ (∀ m231, P225 m231 → wfM m231 → (Wq l G false Y_M_unit d (QI P) 147 [(0, .inr (.inr 70)), (2, .inl y0), (3, .inl z7), (4, .inl z18)] [] m231)))))))))) ∧ (¬ (z18 ≠ 0) → (((m19 70 8) = 4 → ((y0 ≠ 0 → (((m19 70 31) ≠ 7 → (Wq l G false Y_M_unit d (QI P) 147 [(0, .inr (.inr 70)), (2, .inl y0), (3, .inl z7), (4, .inl z18)] [] m19)) ∧ (¬ ((m19 70 31) ≠ 7) → (∃ (e250 : Nat) (P251 : MM → Prop), e250 < d ∧ CV l G Y_M_misplaced e250 [.inr (.inr 70)] m19 P251 ∧ (∀ m257, P251 m257 → wfM m257 → (Wq l G false Y_M_unit d (QI P) 147 [(0, .inr (.inr 70)), (2, .inl y0), (3, .inl z7), (4, .inl z18)] [] m257)))))) ∧ (¬ (y0 ≠ 0) → ((z7 = 0 → (Wq l G false Y_M_unit d (QI P) 147 [(0, .inr (.inr 70)), (2, .inl y0), (3, .inl z7), (4, .inl z18)] [] m19)) ∧ (¬ (z7 = 0) → (((m19 70 31) ≠ 7 → (Wq l G false Y_M_unit d (QI P) 147 [(0, .inr (.inr 70)), (2, .inl y0), (3, .inl z7), (4, .inl z18)] [] m19)) ∧ (¬ ((m19 70 31) ≠ 7) → (∃ (e271 : Nat) (P272 : MM → Prop), e271 < d ∧ CV l G Y_M_misplaced e271 [.inr (.inr 70)] m19 P272 ∧ (∀ m278, P272 m278 → wfM m278 → (Wq l G false Y_M_unit d (QI P) 147 [(0, .inr (.inr 70)), (2, .inl y0), (3, .inl z7), (4, .inl z18)] [] m278)))))))))) ∧ (¬ ((m19 70 8) = 4) → ((z7 = 0 → (∃ (e287 : Nat) (P288 : MM → Prop), e287 < d ∧ CV l G Y_M_misplaced e287 [.inr (.inr 70)] m19 P288 ∧ (∀ m294, P288 m294 → wfM m294 → (Wq l G false Y_M_unit d (QI P) 147 [(0, .inr (.inr 70)), (2, .inl y0), (3, .inl z7), (4, .inl z18)] [] m294)))) ∧ (¬ (z7 = 0) → ((y0 ≠ 0 → (((m19 70 31) ≠ 7 → (Wq l G false Y_M_unit d (QI P) 147 [(0, .inr (.inr 70)), (2, .inl y0), (3, .inl z7), (4, .inl z18)] [] m19)) ∧ (¬ ((m19 70 31) ≠ 7) → (∃ (e308 : Nat) (P309 : MM → Prop), e308 < d ∧ CV l G Y_M_misplaced e308 [.inr (.inr 70)] m19 P309 ∧ (∀ m315, P309 m315 → wfM m315 → (Wq l G false Y_M_unit d (QI P) 147 [(0, .inr (.inr 70)), (2, .inl y0), (3, .inl z7), (4, .inl z18)] [] m315)))))) ∧ (¬ (y0 ≠ 0) → ((z7 = 0 → (Wq l G false Y_M_unit d (QI P) 147 [(0, .inr (.inr 70)), (2, .inl y0), (3, .inl z7), (4, .inl z18)] [] m19)) ∧ (¬ (z7 = 0) → (((m19 70 31) ≠ 7 → (Wq l G false Y_M_unit d (QI P) 147 [(0, .inr (.inr 70)), (2, .inl y0), (3, .inl z7), (4, .inl z18)] [] m19)) ∧ (¬ ((m19 70 31) ≠ 7) → (∃ (e329 : Nat) (P330 : MM → Prop), e329 < d ∧ CV l G Y_M_misplaced e329 [.inr (.inr 70)] m19 P330 ∧ (∀ m336, P330 m336 → wfM m336 → (Wq l G false Y_M_unit d (QI P) 147 [(0, .inr (.inr 70)), (2, .inl y0), (3, .inl z7), (4, .inl z18)] [] m336)))))))))))))))))) ∧ (¬ ((m19 70 33) ≠ 30) → ((y0 ≠ 0 → ((y0 ≠ 0 → (((m19 70 31) ≠ 7 → (Wq l G false Y_M_unit d (QI P) 147 [(0, .inr (.inr 70)), (2, .inl y0), (3, .inl z7), (4, .inl z18)] [] m19)) ∧ (¬ ((m19 70 31) ≠ 7) → (∃ (e355 : Nat) (P356 : MM → Prop), e355 < d ∧ CV l G Y_M_misplaced e355 [.inr (.inr 70)] m19 P356 ∧ (∀ m362, P356 m362 → wfM m362 → (Wq l G false Y_M_unit d (QI P) 147 [(0, .inr (.inr 70)), (2, .inl y0), (3, .inl z7), (4, .inl z18)] [] m362)))))) ∧ (¬ (y0 ≠ 0) → ((z7 = 0 → (Wq l G false Y_M_unit d (QI P) 147 [(0, .inr (.inr 70)), (2, .inl y0), (3, .inl z7), (4, .inl z18)] [] m19)) ∧ (¬ (z7 = 0) → (((m19 70 31) ≠ 7 → (Wq l G false Y_M_unit d (QI P) 147 [(0, .inr (.inr 70)), (2, .inl y0), (3, .inl z7), (4, .inl z18)] [] m19)) ∧ (¬ ((m19 70 31) ≠ 7) → (∃ (e376 : Nat) (P377 : MM → Prop), e376 < d ∧ CV l G Y_M_misplaced e376 [.inr (.inr 70)] m19 P377 ∧ (∀ m383, P377 m383 → wfM m383 → (Wq l G false Y_M_unit d (QI P) 147 [(0, .inr (.inr 70)), (2, .inl y0), (3, .inl z7), (4, .inl z18)] [] m383)))))))))) ∧ (¬ (y0 ≠ 0) → ((z18 ≠ 0 → (∃ (e392 : Nat) (P393 : MM → Prop), e392 < d ∧ CV l G Y_M_misplaced e392 [.inr (.inr 70)] m19 P393 ∧ (∀ m399, P393 m399 → wfM m399 → (Wq l G false Y_M_unit d (QI P) 147 [(0, .inr (.inr 70)), (2, .inl y0), (3, .inl z7), (4, .inl z18)] [] m399)))) ∧ (¬ (z18 ≠ 0) → (((m19 70 8) = 4 → (∃ (e408 : Nat) (P409 : MM → Prop), e408 < d ∧ CV l G Y_M_misplaced e408 [.inr (.inr 70)] m19 P409 ∧ (∀ m415, P409 m415 → wfM m415 → (Wq l G false Y_M_unit d (QI P) 147 [(0, .inr (.inr 70)), (2, .inl y0), (3, .inl z7), (4, .inl z18)] [] m415)))) ∧ (¬ ((m19 70 8) = 4) → ((z7 = 0 → (∃ (e424 : Nat) (P425 : MM → Prop), e424 < d ∧ CV l G Y_M_misplaced e424 [.inr (.inr 70)] m19 P425 ∧ (∀ m431, P425 m431 → wfM m431 → (Wq l G false Y_M_unit d (QI P) 147 [(0, .inr (.inr 70)), (2, .inl y0), (3, .inl z7), (4, .inl z18)] [] m431)))) ∧ (¬ (z7 = 0) → (∃ (e435 : Nat) (P436 : MM → Prop), e435 < d ∧ CV l G Y_M_misplaced e435 [.inr (.inr 70)] m19 P436 ∧ (∀ m442, P436 m442 → wfM m442 → (Wq l G false Y_M_unit d (QI P) 147 [(0, .inr (.inr 70)), (2, .inl y0), (3, .inl z7), (4, .inl z18)] [] m442)))))))))))))))))))) : Wq l G false Y_M_unit d (QI P) 56 [(0, .inr (.inr 70))] [.inl y0] m := by
  refine Wp.wf (fun hw _ hl hs => ?_)
  have H0 := H hw (hs _ (List.mem_of_getElem? (i := 0) rfl))
  refine Wp.istore_n 2 [(0, .inr (.inr 70)), (2, .inl y0)] d_M_unit_56 rfl (by decide) rfl ?_
  refine Wp.aload_n 0 0 d_M_unit_57 rfl rfl ?_
  refine Wp.bipush d_M_unit_58 (by decide) (by decide) ?_
  obtain ⟨e1, P2, hd3, ho4, H5⟩ := H0
  refine Wq.VI (st := []) [.inl 40] d_M_unit_60 k_M_isSignHere ml_M_274 rfl rfl rfl (fun h => by cases h) (Nat.le_of_ble_eq_true rfl) hd3 ho4 (fun z7 m8 hp9 hz10 hw11 => ?_)
  have H6 := H5 z7 m8 hp9 hz10 hw11
  refine Wp.istore_n 3 [(0, .inr (.inr 70)), (2, .inl y0), (3, .inl z7)] d_M_unit_63 rfl (by decide) rfl ?_
  refine Wp.aload_n 0 0 d_M_unit_64 rfl rfl ?_
  obtain ⟨e12, P13, hd14, ho15, H16⟩ := H6
  refine Wq.VI (st := []) [] d_M_unit_65 k_M_wordHere ml_M_313 rfl rfl rfl (fun h => by cases h) (Nat.le_of_ble_eq_true rfl) hd14 ho15 (fun z18 m19 hp20 hz21 hw22 => ?_)
  have H17 := H16 z18 m19 hp20 hz21 hw22
  refine Wp.istore 4 [(0, .inr (.inr 70)), (2, .inl y0), (3, .inl z7), (4, .inl z18)] d_M_unit_68 (by decide) rfl ?_
  refine Wp.aload_n 0 0 d_M_unit_70 rfl rfl ?_
  refine Wp.getP 75 d_M_unit_71 fl_M_27 rfl rfl rfl ?_
  refine Wp.aload_n 0 0 d_M_unit_74 rfl rfl ?_
  refine Wq.getI 29 rfl d_M_unit_75 fl_M_234 rfl (Or.inl rfl) ?_
  obtain ⟨s23, H24⟩ := H17
  refine Wp.iald d_M_unit_78 rfl (Or.inl rfl) s23.1 s23.2 ?_
  refine Wp.bipush d_M_unit_79 (by decide) (by decide) ?_
  obtain ⟨H26, H27⟩ := H24
  refine Wp.icmp_eq 93 d_M_unit_81 (by decide) (fun c25 => ?_) (fun c25 => ?_)
  · have H28 := H26 c25
    refine Wp.iconst d_M_unit_93 (by decide) ?_
    refine Wp.goto 98 d_M_unit_94 (by decide) ?_
    refine Wp.istore 5 [(0, .inr (.inr 70)), (2, .inl y0), (3, .inl z7), (4, .inl z18), (5, .inl 1)] d_M_unit_98 (by decide) rfl ?_
    refine Wp.iload_n 1 2 d_M_unit_100 rfl rfl ?_
    obtain ⟨H31, H32⟩ := H28
    refine Wp.if_ne 126 d_M_unit_101 (by decide) (fun c30 => ?_) (fun c30 => ?_)
    · have H33 := H31 c30
      refine Wp.iload_n 1 2 d_M_unit_126 rfl rfl ?_
      obtain ⟨H36, H37⟩ := H33
      refine Wp.if_ne 134 d_M_unit_127 (by decide) (fun c35 => ?_) (fun c35 => ?_)
      · have H38 := H36 c35
        refine Wp.aload_n 0 0 d_M_unit_134 rfl rfl ?_
        refine Wq.getI 31 rfl d_M_unit_135 fl_M_301 rfl (Or.inl rfl) ?_
        refine Wp.bipush d_M_unit_138 (by decide) (by decide) ?_
        obtain ⟨H41, H42⟩ := H38
        refine Wp.icmp_ne 147 d_M_unit_140 (by decide) (fun c40 => ?_) (fun c40 => ?_)
        · have H43 := H41 c40
          refine Wp.pick [0, 1, 2, 3] [(0, .inr (.inr 70)), (2, .inl y0), (3, .inl z7), (4, .inl z18)] rfl ?_
          exact H43
        · have H44 := H42 c40
          refine Wp.aload_n 0 0 d_M_unit_143 rfl rfl ?_
          obtain ⟨e45, P46, hd47, ho48, H49⟩ := H44
          refine Wq.VV (st := []) [] d_M_unit_144 k_M_misplaced ml_M_224 rfl rfl rfl (fun h => by cases h) (Nat.le_of_ble_eq_true rfl) hd47 ho48 (fun m52 hp53 hw55 => ?_)
          have H50 := H49 m52 hp53 hw55
          refine Wp.pick [0, 1, 2, 3] [(0, .inr (.inr 70)), (2, .inl y0), (3, .inl z7), (4, .inl z18)] rfl ?_
          exact H50
      · have H39 := H37 c35
        refine Wp.iload_n 2 3 d_M_unit_130 rfl rfl ?_
        obtain ⟨H57, H58⟩ := H39
        refine Wp.if_eq 147 d_M_unit_131 (by decide) (fun c56 => ?_) (fun c56 => ?_)
        · have H59 := H57 c56
          refine Wp.pick [0, 1, 2, 3] [(0, .inr (.inr 70)), (2, .inl y0), (3, .inl z7), (4, .inl z18)] rfl ?_
          exact H59
        · have H60 := H58 c56
          refine Wp.aload_n 0 0 d_M_unit_134 rfl rfl ?_
          refine Wq.getI 31 rfl d_M_unit_135 fl_M_301 rfl (Or.inl rfl) ?_
          refine Wp.bipush d_M_unit_138 (by decide) (by decide) ?_
          obtain ⟨H62, H63⟩ := H60
          refine Wp.icmp_ne 147 d_M_unit_140 (by decide) (fun c61 => ?_) (fun c61 => ?_)
          · have H64 := H62 c61
            refine Wp.pick [0, 1, 2, 3] [(0, .inr (.inr 70)), (2, .inl y0), (3, .inl z7), (4, .inl z18)] rfl ?_
            exact H64
          · have H65 := H63 c61
            refine Wp.aload_n 0 0 d_M_unit_143 rfl rfl ?_
            obtain ⟨e66, P67, hd68, ho69, H70⟩ := H65
            refine Wq.VV (st := []) [] d_M_unit_144 k_M_misplaced ml_M_224 rfl rfl rfl (fun h => by cases h) (Nat.le_of_ble_eq_true rfl) hd68 ho69 (fun m73 hp74 hw76 => ?_)
            have H71 := H70 m73 hp74 hw76
            refine Wp.pick [0, 1, 2, 3] [(0, .inr (.inr 70)), (2, .inl y0), (3, .inl z7), (4, .inl z18)] rfl ?_
            exact H71
    · have H34 := H32 c30
      refine Wp.iload 3 4 d_M_unit_104 rfl ?_
      obtain ⟨H78, H79⟩ := H34
      refine Wp.if_ne 121 d_M_unit_106 (by decide) (fun c77 => ?_) (fun c77 => ?_)
      · have H80 := H78 c77
        refine Wp.iload 4 5 d_M_unit_121 rfl ?_
        refine Wp.if_ne 143 d_M_unit_123 (by decide) (fun _ => ?_) (fun c => absurd (by decide) c)
        refine Wp.aload_n 0 0 d_M_unit_143 rfl rfl ?_
        obtain ⟨e82, P83, hd84, ho85, H86⟩ := H80
        refine Wq.VV (st := []) [] d_M_unit_144 k_M_misplaced ml_M_224 rfl rfl rfl (fun h => by cases h) (Nat.le_of_ble_eq_true rfl) hd84 ho85 (fun m89 hp90 hw92 => ?_)
        have H87 := H86 m89 hp90 hw92
        refine Wp.pick [0, 1, 2, 3] [(0, .inr (.inr 70)), (2, .inl y0), (3, .inl z7), (4, .inl z18)] rfl ?_
        exact H87
      · have H81 := H79 c77
        refine Wp.aload_n 0 0 d_M_unit_109 rfl rfl ?_
        refine Wq.getI 8 rfl d_M_unit_110 fl_M_189 rfl (Or.inl rfl) ?_
        refine Wp.iconst d_M_unit_113 (by decide) ?_
        obtain ⟨H94, H95⟩ := H81
        refine Wp.icmp_eq 121 d_M_unit_114 (by decide) (fun c93 => ?_) (fun c93 => ?_)
        · have H96 := H94 c93
          refine Wp.iload 4 5 d_M_unit_121 rfl ?_
          refine Wp.if_ne 143 d_M_unit_123 (by decide) (fun _ => ?_) (fun c => absurd (by decide) c)
          refine Wp.aload_n 0 0 d_M_unit_143 rfl rfl ?_
          obtain ⟨e98, P99, hd100, ho101, H102⟩ := H96
          refine Wq.VV (st := []) [] d_M_unit_144 k_M_misplaced ml_M_224 rfl rfl rfl (fun h => by cases h) (Nat.le_of_ble_eq_true rfl) hd100 ho101 (fun m105 hp106 hw108 => ?_)
          have H103 := H102 m105 hp106 hw108
          refine Wp.pick [0, 1, 2, 3] [(0, .inr (.inr 70)), (2, .inl y0), (3, .inl z7), (4, .inl z18)] rfl ?_
          exact H103
        · have H97 := H95 c93
          refine Wp.iload_n 2 3 d_M_unit_117 rfl rfl ?_
          obtain ⟨H110, H111⟩ := H97
          refine Wp.if_eq 143 d_M_unit_118 (by decide) (fun c109 => ?_) (fun c109 => ?_)
          · have H112 := H110 c109
            refine Wp.aload_n 0 0 d_M_unit_143 rfl rfl ?_
            obtain ⟨e114, P115, hd116, ho117, H118⟩ := H112
            refine Wq.VV (st := []) [] d_M_unit_144 k_M_misplaced ml_M_224 rfl rfl rfl (fun h => by cases h) (Nat.le_of_ble_eq_true rfl) hd116 ho117 (fun m121 hp122 hw124 => ?_)
            have H119 := H118 m121 hp122 hw124
            refine Wp.pick [0, 1, 2, 3] [(0, .inr (.inr 70)), (2, .inl y0), (3, .inl z7), (4, .inl z18)] rfl ?_
            exact H119
          · have H113 := H111 c109
            refine Wp.iload 4 5 d_M_unit_121 rfl ?_
            refine Wp.if_ne 143 d_M_unit_123 (by decide) (fun _ => ?_) (fun c => absurd (by decide) c)
            refine Wp.aload_n 0 0 d_M_unit_143 rfl rfl ?_
            obtain ⟨e125, P126, hd127, ho128, H129⟩ := H113
            refine Wq.VV (st := []) [] d_M_unit_144 k_M_misplaced ml_M_224 rfl rfl rfl (fun h => by cases h) (Nat.le_of_ble_eq_true rfl) hd127 ho128 (fun m132 hp133 hw135 => ?_)
            have H130 := H129 m132 hp133 hw135
            refine Wp.pick [0, 1, 2, 3] [(0, .inr (.inr 70)), (2, .inl y0), (3, .inl z7), (4, .inl z18)] rfl ?_
            exact H130
  · have H29 := H27 c25
    refine Wp.aload_n 0 0 d_M_unit_84 rfl rfl ?_
    refine Wq.getI 33 rfl d_M_unit_85 fl_M_292 rfl (Or.inl rfl) ?_
    refine Wp.bipush d_M_unit_88 (by decide) (by decide) ?_
    obtain ⟨H137, H138⟩ := H29
    refine Wp.icmp_ne 97 d_M_unit_90 (by decide) (fun c136 => ?_) (fun c136 => ?_)
    · have H139 := H137 c136
      refine Wp.iconst d_M_unit_97 (by decide) ?_
      refine Wp.istore 5 [(0, .inr (.inr 70)), (2, .inl y0), (3, .inl z7), (4, .inl z18), (5, .inl 0)] d_M_unit_98 (by decide) rfl ?_
      refine Wp.iload_n 1 2 d_M_unit_100 rfl rfl ?_
      obtain ⟨H142, H143⟩ := H139
      refine Wp.if_ne 126 d_M_unit_101 (by decide) (fun c141 => ?_) (fun c141 => ?_)
      · have H144 := H142 c141
        refine Wp.iload_n 1 2 d_M_unit_126 rfl rfl ?_
        obtain ⟨H147, H148⟩ := H144
        refine Wp.if_ne 134 d_M_unit_127 (by decide) (fun c146 => ?_) (fun c146 => ?_)
        · have H149 := H147 c146
          refine Wp.aload_n 0 0 d_M_unit_134 rfl rfl ?_
          refine Wq.getI 31 rfl d_M_unit_135 fl_M_301 rfl (Or.inl rfl) ?_
          refine Wp.bipush d_M_unit_138 (by decide) (by decide) ?_
          obtain ⟨H152, H153⟩ := H149
          refine Wp.icmp_ne 147 d_M_unit_140 (by decide) (fun c151 => ?_) (fun c151 => ?_)
          · have H154 := H152 c151
            refine Wp.pick [0, 1, 2, 3] [(0, .inr (.inr 70)), (2, .inl y0), (3, .inl z7), (4, .inl z18)] rfl ?_
            exact H154
          · have H155 := H153 c151
            refine Wp.aload_n 0 0 d_M_unit_143 rfl rfl ?_
            obtain ⟨e156, P157, hd158, ho159, H160⟩ := H155
            refine Wq.VV (st := []) [] d_M_unit_144 k_M_misplaced ml_M_224 rfl rfl rfl (fun h => by cases h) (Nat.le_of_ble_eq_true rfl) hd158 ho159 (fun m163 hp164 hw166 => ?_)
            have H161 := H160 m163 hp164 hw166
            refine Wp.pick [0, 1, 2, 3] [(0, .inr (.inr 70)), (2, .inl y0), (3, .inl z7), (4, .inl z18)] rfl ?_
            exact H161
        · have H150 := H148 c146
          refine Wp.iload_n 2 3 d_M_unit_130 rfl rfl ?_
          obtain ⟨H168, H169⟩ := H150
          refine Wp.if_eq 147 d_M_unit_131 (by decide) (fun c167 => ?_) (fun c167 => ?_)
          · have H170 := H168 c167
            refine Wp.pick [0, 1, 2, 3] [(0, .inr (.inr 70)), (2, .inl y0), (3, .inl z7), (4, .inl z18)] rfl ?_
            exact H170
          · have H171 := H169 c167
            refine Wp.aload_n 0 0 d_M_unit_134 rfl rfl ?_
            refine Wq.getI 31 rfl d_M_unit_135 fl_M_301 rfl (Or.inl rfl) ?_
            refine Wp.bipush d_M_unit_138 (by decide) (by decide) ?_
            obtain ⟨H173, H174⟩ := H171
            refine Wp.icmp_ne 147 d_M_unit_140 (by decide) (fun c172 => ?_) (fun c172 => ?_)
            · have H175 := H173 c172
              refine Wp.pick [0, 1, 2, 3] [(0, .inr (.inr 70)), (2, .inl y0), (3, .inl z7), (4, .inl z18)] rfl ?_
              exact H175
            · have H176 := H174 c172
              refine Wp.aload_n 0 0 d_M_unit_143 rfl rfl ?_
              obtain ⟨e177, P178, hd179, ho180, H181⟩ := H176
              refine Wq.VV (st := []) [] d_M_unit_144 k_M_misplaced ml_M_224 rfl rfl rfl (fun h => by cases h) (Nat.le_of_ble_eq_true rfl) hd179 ho180 (fun m184 hp185 hw187 => ?_)
              have H182 := H181 m184 hp185 hw187
              refine Wp.pick [0, 1, 2, 3] [(0, .inr (.inr 70)), (2, .inl y0), (3, .inl z7), (4, .inl z18)] rfl ?_
              exact H182
      · have H145 := H143 c141
        refine Wp.iload 3 4 d_M_unit_104 rfl ?_
        obtain ⟨H189, H190⟩ := H145
        refine Wp.if_ne 121 d_M_unit_106 (by decide) (fun c188 => ?_) (fun c188 => ?_)
        · have H191 := H189 c188
          refine Wp.iload 4 5 d_M_unit_121 rfl ?_
          refine Wp.if_ne 143 d_M_unit_123 (by decide) (fun c => absurd c (by decide)) (fun _ => ?_)
          refine Wp.iload_n 1 2 d_M_unit_126 rfl rfl ?_
          obtain ⟨H194, H195⟩ := H191
          refine Wp.if_ne 134 d_M_unit_127 (by decide) (fun c193 => ?_) (fun c193 => ?_)
          · have H196 := H194 c193
            refine Wp.aload_n 0 0 d_M_unit_134 rfl rfl ?_
            refine Wq.getI 31 rfl d_M_unit_135 fl_M_301 rfl (Or.inl rfl) ?_
            refine Wp.bipush d_M_unit_138 (by decide) (by decide) ?_
            obtain ⟨H199, H200⟩ := H196
            refine Wp.icmp_ne 147 d_M_unit_140 (by decide) (fun c198 => ?_) (fun c198 => ?_)
            · have H201 := H199 c198
              refine Wp.pick [0, 1, 2, 3] [(0, .inr (.inr 70)), (2, .inl y0), (3, .inl z7), (4, .inl z18)] rfl ?_
              exact H201
            · have H202 := H200 c198
              refine Wp.aload_n 0 0 d_M_unit_143 rfl rfl ?_
              obtain ⟨e203, P204, hd205, ho206, H207⟩ := H202
              refine Wq.VV (st := []) [] d_M_unit_144 k_M_misplaced ml_M_224 rfl rfl rfl (fun h => by cases h) (Nat.le_of_ble_eq_true rfl) hd205 ho206 (fun m210 hp211 hw213 => ?_)
              have H208 := H207 m210 hp211 hw213
              refine Wp.pick [0, 1, 2, 3] [(0, .inr (.inr 70)), (2, .inl y0), (3, .inl z7), (4, .inl z18)] rfl ?_
              exact H208
          · have H197 := H195 c193
            refine Wp.iload_n 2 3 d_M_unit_130 rfl rfl ?_
            obtain ⟨H215, H216⟩ := H197
            refine Wp.if_eq 147 d_M_unit_131 (by decide) (fun c214 => ?_) (fun c214 => ?_)
            · have H217 := H215 c214
              refine Wp.pick [0, 1, 2, 3] [(0, .inr (.inr 70)), (2, .inl y0), (3, .inl z7), (4, .inl z18)] rfl ?_
              exact H217
            · have H218 := H216 c214
              refine Wp.aload_n 0 0 d_M_unit_134 rfl rfl ?_
              refine Wq.getI 31 rfl d_M_unit_135 fl_M_301 rfl (Or.inl rfl) ?_
              refine Wp.bipush d_M_unit_138 (by decide) (by decide) ?_
              obtain ⟨H220, H221⟩ := H218
              refine Wp.icmp_ne 147 d_M_unit_140 (by decide) (fun c219 => ?_) (fun c219 => ?_)
              · have H222 := H220 c219
                refine Wp.pick [0, 1, 2, 3] [(0, .inr (.inr 70)), (2, .inl y0), (3, .inl z7), (4, .inl z18)] rfl ?_
                exact H222
              · have H223 := H221 c219
                refine Wp.aload_n 0 0 d_M_unit_143 rfl rfl ?_
                obtain ⟨e224, P225, hd226, ho227, H228⟩ := H223
                refine Wq.VV (st := []) [] d_M_unit_144 k_M_misplaced ml_M_224 rfl rfl rfl (fun h => by cases h) (Nat.le_of_ble_eq_true rfl) hd226 ho227 (fun m231 hp232 hw234 => ?_)
                have H229 := H228 m231 hp232 hw234
                refine Wp.pick [0, 1, 2, 3] [(0, .inr (.inr 70)), (2, .inl y0), (3, .inl z7), (4, .inl z18)] rfl ?_
                exact H229
        · have H192 := H190 c188
          refine Wp.aload_n 0 0 d_M_unit_109 rfl rfl ?_
          refine Wq.getI 8 rfl d_M_unit_110 fl_M_189 rfl (Or.inl rfl) ?_
          refine Wp.iconst d_M_unit_113 (by decide) ?_
          obtain ⟨H236, H237⟩ := H192
          refine Wp.icmp_eq 121 d_M_unit_114 (by decide) (fun c235 => ?_) (fun c235 => ?_)
          · have H238 := H236 c235
            refine Wp.iload 4 5 d_M_unit_121 rfl ?_
            refine Wp.if_ne 143 d_M_unit_123 (by decide) (fun c => absurd c (by decide)) (fun _ => ?_)
            refine Wp.iload_n 1 2 d_M_unit_126 rfl rfl ?_
            obtain ⟨H241, H242⟩ := H238
            refine Wp.if_ne 134 d_M_unit_127 (by decide) (fun c240 => ?_) (fun c240 => ?_)
            · have H243 := H241 c240
              refine Wp.aload_n 0 0 d_M_unit_134 rfl rfl ?_
              refine Wq.getI 31 rfl d_M_unit_135 fl_M_301 rfl (Or.inl rfl) ?_
              refine Wp.bipush d_M_unit_138 (by decide) (by decide) ?_
              obtain ⟨H246, H247⟩ := H243
              refine Wp.icmp_ne 147 d_M_unit_140 (by decide) (fun c245 => ?_) (fun c245 => ?_)
              · have H248 := H246 c245
                refine Wp.pick [0, 1, 2, 3] [(0, .inr (.inr 70)), (2, .inl y0), (3, .inl z7), (4, .inl z18)] rfl ?_
                exact H248
              · have H249 := H247 c245
                refine Wp.aload_n 0 0 d_M_unit_143 rfl rfl ?_
                obtain ⟨e250, P251, hd252, ho253, H254⟩ := H249
                refine Wq.VV (st := []) [] d_M_unit_144 k_M_misplaced ml_M_224 rfl rfl rfl (fun h => by cases h) (Nat.le_of_ble_eq_true rfl) hd252 ho253 (fun m257 hp258 hw260 => ?_)
                have H255 := H254 m257 hp258 hw260
                refine Wp.pick [0, 1, 2, 3] [(0, .inr (.inr 70)), (2, .inl y0), (3, .inl z7), (4, .inl z18)] rfl ?_
                exact H255
            · have H244 := H242 c240
              refine Wp.iload_n 2 3 d_M_unit_130 rfl rfl ?_
              obtain ⟨H262, H263⟩ := H244
              refine Wp.if_eq 147 d_M_unit_131 (by decide) (fun c261 => ?_) (fun c261 => ?_)
              · have H264 := H262 c261
                refine Wp.pick [0, 1, 2, 3] [(0, .inr (.inr 70)), (2, .inl y0), (3, .inl z7), (4, .inl z18)] rfl ?_
                exact H264
              · have H265 := H263 c261
                refine Wp.aload_n 0 0 d_M_unit_134 rfl rfl ?_
                refine Wq.getI 31 rfl d_M_unit_135 fl_M_301 rfl (Or.inl rfl) ?_
                refine Wp.bipush d_M_unit_138 (by decide) (by decide) ?_
                obtain ⟨H267, H268⟩ := H265
                refine Wp.icmp_ne 147 d_M_unit_140 (by decide) (fun c266 => ?_) (fun c266 => ?_)
                · have H269 := H267 c266
                  refine Wp.pick [0, 1, 2, 3] [(0, .inr (.inr 70)), (2, .inl y0), (3, .inl z7), (4, .inl z18)] rfl ?_
                  exact H269
                · have H270 := H268 c266
                  refine Wp.aload_n 0 0 d_M_unit_143 rfl rfl ?_
                  obtain ⟨e271, P272, hd273, ho274, H275⟩ := H270
                  refine Wq.VV (st := []) [] d_M_unit_144 k_M_misplaced ml_M_224 rfl rfl rfl (fun h => by cases h) (Nat.le_of_ble_eq_true rfl) hd273 ho274 (fun m278 hp279 hw281 => ?_)
                  have H276 := H275 m278 hp279 hw281
                  refine Wp.pick [0, 1, 2, 3] [(0, .inr (.inr 70)), (2, .inl y0), (3, .inl z7), (4, .inl z18)] rfl ?_
                  exact H276
          · have H239 := H237 c235
            refine Wp.iload_n 2 3 d_M_unit_117 rfl rfl ?_
            obtain ⟨H283, H284⟩ := H239
            refine Wp.if_eq 143 d_M_unit_118 (by decide) (fun c282 => ?_) (fun c282 => ?_)
            · have H285 := H283 c282
              refine Wp.aload_n 0 0 d_M_unit_143 rfl rfl ?_
              obtain ⟨e287, P288, hd289, ho290, H291⟩ := H285
              refine Wq.VV (st := []) [] d_M_unit_144 k_M_misplaced ml_M_224 rfl rfl rfl (fun h => by cases h) (Nat.le_of_ble_eq_true rfl) hd289 ho290 (fun m294 hp295 hw297 => ?_)
              have H292 := H291 m294 hp295 hw297
              refine Wp.pick [0, 1, 2, 3] [(0, .inr (.inr 70)), (2, .inl y0), (3, .inl z7), (4, .inl z18)] rfl ?_
              exact H292
            · have H286 := H284 c282
              refine Wp.iload 4 5 d_M_unit_121 rfl ?_
              refine Wp.if_ne 143 d_M_unit_123 (by decide) (fun c => absurd c (by decide)) (fun _ => ?_)
              refine Wp.iload_n 1 2 d_M_unit_126 rfl rfl ?_
              obtain ⟨H299, H300⟩ := H286
              refine Wp.if_ne 134 d_M_unit_127 (by decide) (fun c298 => ?_) (fun c298 => ?_)
              · have H301 := H299 c298
                refine Wp.aload_n 0 0 d_M_unit_134 rfl rfl ?_
                refine Wq.getI 31 rfl d_M_unit_135 fl_M_301 rfl (Or.inl rfl) ?_
                refine Wp.bipush d_M_unit_138 (by decide) (by decide) ?_
                obtain ⟨H304, H305⟩ := H301
                refine Wp.icmp_ne 147 d_M_unit_140 (by decide) (fun c303 => ?_) (fun c303 => ?_)
                · have H306 := H304 c303
                  refine Wp.pick [0, 1, 2, 3] [(0, .inr (.inr 70)), (2, .inl y0), (3, .inl z7), (4, .inl z18)] rfl ?_
                  exact H306
                · have H307 := H305 c303
                  refine Wp.aload_n 0 0 d_M_unit_143 rfl rfl ?_
                  obtain ⟨e308, P309, hd310, ho311, H312⟩ := H307
                  refine Wq.VV (st := []) [] d_M_unit_144 k_M_misplaced ml_M_224 rfl rfl rfl (fun h => by cases h) (Nat.le_of_ble_eq_true rfl) hd310 ho311 (fun m315 hp316 hw318 => ?_)
                  have H313 := H312 m315 hp316 hw318
                  refine Wp.pick [0, 1, 2, 3] [(0, .inr (.inr 70)), (2, .inl y0), (3, .inl z7), (4, .inl z18)] rfl ?_
                  exact H313
              · have H302 := H300 c298
                refine Wp.iload_n 2 3 d_M_unit_130 rfl rfl ?_
                obtain ⟨H320, H321⟩ := H302
                refine Wp.if_eq 147 d_M_unit_131 (by decide) (fun c319 => ?_) (fun c319 => ?_)
                · have H322 := H320 c319
                  refine Wp.pick [0, 1, 2, 3] [(0, .inr (.inr 70)), (2, .inl y0), (3, .inl z7), (4, .inl z18)] rfl ?_
                  exact H322
                · have H323 := H321 c319
                  refine Wp.aload_n 0 0 d_M_unit_134 rfl rfl ?_
                  refine Wq.getI 31 rfl d_M_unit_135 fl_M_301 rfl (Or.inl rfl) ?_
                  refine Wp.bipush d_M_unit_138 (by decide) (by decide) ?_
                  obtain ⟨H325, H326⟩ := H323
                  refine Wp.icmp_ne 147 d_M_unit_140 (by decide) (fun c324 => ?_) (fun c324 => ?_)
                  · have H327 := H325 c324
                    refine Wp.pick [0, 1, 2, 3] [(0, .inr (.inr 70)), (2, .inl y0), (3, .inl z7), (4, .inl z18)] rfl ?_
                    exact H327
                  · have H328 := H326 c324
                    refine Wp.aload_n 0 0 d_M_unit_143 rfl rfl ?_
                    obtain ⟨e329, P330, hd331, ho332, H333⟩ := H328
                    refine Wq.VV (st := []) [] d_M_unit_144 k_M_misplaced ml_M_224 rfl rfl rfl (fun h => by cases h) (Nat.le_of_ble_eq_true rfl) hd331 ho332 (fun m336 hp337 hw339 => ?_)
                    have H334 := H333 m336 hp337 hw339
                    refine Wp.pick [0, 1, 2, 3] [(0, .inr (.inr 70)), (2, .inl y0), (3, .inl z7), (4, .inl z18)] rfl ?_
                    exact H334
    · have H140 := H138 c136
      refine Wp.iconst d_M_unit_93 (by decide) ?_
      refine Wp.goto 98 d_M_unit_94 (by decide) ?_
      refine Wp.istore 5 [(0, .inr (.inr 70)), (2, .inl y0), (3, .inl z7), (4, .inl z18), (5, .inl 1)] d_M_unit_98 (by decide) rfl ?_
      refine Wp.iload_n 1 2 d_M_unit_100 rfl rfl ?_
      obtain ⟨H341, H342⟩ := H140
      refine Wp.if_ne 126 d_M_unit_101 (by decide) (fun c340 => ?_) (fun c340 => ?_)
      · have H343 := H341 c340
        refine Wp.iload_n 1 2 d_M_unit_126 rfl rfl ?_
        obtain ⟨H346, H347⟩ := H343
        refine Wp.if_ne 134 d_M_unit_127 (by decide) (fun c345 => ?_) (fun c345 => ?_)
        · have H348 := H346 c345
          refine Wp.aload_n 0 0 d_M_unit_134 rfl rfl ?_
          refine Wq.getI 31 rfl d_M_unit_135 fl_M_301 rfl (Or.inl rfl) ?_
          refine Wp.bipush d_M_unit_138 (by decide) (by decide) ?_
          obtain ⟨H351, H352⟩ := H348
          refine Wp.icmp_ne 147 d_M_unit_140 (by decide) (fun c350 => ?_) (fun c350 => ?_)
          · have H353 := H351 c350
            refine Wp.pick [0, 1, 2, 3] [(0, .inr (.inr 70)), (2, .inl y0), (3, .inl z7), (4, .inl z18)] rfl ?_
            exact H353
          · have H354 := H352 c350
            refine Wp.aload_n 0 0 d_M_unit_143 rfl rfl ?_
            obtain ⟨e355, P356, hd357, ho358, H359⟩ := H354
            refine Wq.VV (st := []) [] d_M_unit_144 k_M_misplaced ml_M_224 rfl rfl rfl (fun h => by cases h) (Nat.le_of_ble_eq_true rfl) hd357 ho358 (fun m362 hp363 hw365 => ?_)
            have H360 := H359 m362 hp363 hw365
            refine Wp.pick [0, 1, 2, 3] [(0, .inr (.inr 70)), (2, .inl y0), (3, .inl z7), (4, .inl z18)] rfl ?_
            exact H360
        · have H349 := H347 c345
          refine Wp.iload_n 2 3 d_M_unit_130 rfl rfl ?_
          obtain ⟨H367, H368⟩ := H349
          refine Wp.if_eq 147 d_M_unit_131 (by decide) (fun c366 => ?_) (fun c366 => ?_)
          · have H369 := H367 c366
            refine Wp.pick [0, 1, 2, 3] [(0, .inr (.inr 70)), (2, .inl y0), (3, .inl z7), (4, .inl z18)] rfl ?_
            exact H369
          · have H370 := H368 c366
            refine Wp.aload_n 0 0 d_M_unit_134 rfl rfl ?_
            refine Wq.getI 31 rfl d_M_unit_135 fl_M_301 rfl (Or.inl rfl) ?_
            refine Wp.bipush d_M_unit_138 (by decide) (by decide) ?_
            obtain ⟨H372, H373⟩ := H370
            refine Wp.icmp_ne 147 d_M_unit_140 (by decide) (fun c371 => ?_) (fun c371 => ?_)
            · have H374 := H372 c371
              refine Wp.pick [0, 1, 2, 3] [(0, .inr (.inr 70)), (2, .inl y0), (3, .inl z7), (4, .inl z18)] rfl ?_
              exact H374
            · have H375 := H373 c371
              refine Wp.aload_n 0 0 d_M_unit_143 rfl rfl ?_
              obtain ⟨e376, P377, hd378, ho379, H380⟩ := H375
              refine Wq.VV (st := []) [] d_M_unit_144 k_M_misplaced ml_M_224 rfl rfl rfl (fun h => by cases h) (Nat.le_of_ble_eq_true rfl) hd378 ho379 (fun m383 hp384 hw386 => ?_)
              have H381 := H380 m383 hp384 hw386
              refine Wp.pick [0, 1, 2, 3] [(0, .inr (.inr 70)), (2, .inl y0), (3, .inl z7), (4, .inl z18)] rfl ?_
              exact H381
      · have H344 := H342 c340
        refine Wp.iload 3 4 d_M_unit_104 rfl ?_
        obtain ⟨H388, H389⟩ := H344
        refine Wp.if_ne 121 d_M_unit_106 (by decide) (fun c387 => ?_) (fun c387 => ?_)
        · have H390 := H388 c387
          refine Wp.iload 4 5 d_M_unit_121 rfl ?_
          refine Wp.if_ne 143 d_M_unit_123 (by decide) (fun _ => ?_) (fun c => absurd (by decide) c)
          refine Wp.aload_n 0 0 d_M_unit_143 rfl rfl ?_
          obtain ⟨e392, P393, hd394, ho395, H396⟩ := H390
          refine Wq.VV (st := []) [] d_M_unit_144 k_M_misplaced ml_M_224 rfl rfl rfl (fun h => by cases h) (Nat.le_of_ble_eq_true rfl) hd394 ho395 (fun m399 hp400 hw402 => ?_)
          have H397 := H396 m399 hp400 hw402
          refine Wp.pick [0, 1, 2, 3] [(0, .inr (.inr 70)), (2, .inl y0), (3, .inl z7), (4, .inl z18)] rfl ?_
          exact H397
        · have H391 := H389 c387
          refine Wp.aload_n 0 0 d_M_unit_109 rfl rfl ?_
          refine Wq.getI 8 rfl d_M_unit_110 fl_M_189 rfl (Or.inl rfl) ?_
          refine Wp.iconst d_M_unit_113 (by decide) ?_
          obtain ⟨H404, H405⟩ := H391
          refine Wp.icmp_eq 121 d_M_unit_114 (by decide) (fun c403 => ?_) (fun c403 => ?_)
          · have H406 := H404 c403
            refine Wp.iload 4 5 d_M_unit_121 rfl ?_
            refine Wp.if_ne 143 d_M_unit_123 (by decide) (fun _ => ?_) (fun c => absurd (by decide) c)
            refine Wp.aload_n 0 0 d_M_unit_143 rfl rfl ?_
            obtain ⟨e408, P409, hd410, ho411, H412⟩ := H406
            refine Wq.VV (st := []) [] d_M_unit_144 k_M_misplaced ml_M_224 rfl rfl rfl (fun h => by cases h) (Nat.le_of_ble_eq_true rfl) hd410 ho411 (fun m415 hp416 hw418 => ?_)
            have H413 := H412 m415 hp416 hw418
            refine Wp.pick [0, 1, 2, 3] [(0, .inr (.inr 70)), (2, .inl y0), (3, .inl z7), (4, .inl z18)] rfl ?_
            exact H413
          · have H407 := H405 c403
            refine Wp.iload_n 2 3 d_M_unit_117 rfl rfl ?_
            obtain ⟨H420, H421⟩ := H407
            refine Wp.if_eq 143 d_M_unit_118 (by decide) (fun c419 => ?_) (fun c419 => ?_)
            · have H422 := H420 c419
              refine Wp.aload_n 0 0 d_M_unit_143 rfl rfl ?_
              obtain ⟨e424, P425, hd426, ho427, H428⟩ := H422
              refine Wq.VV (st := []) [] d_M_unit_144 k_M_misplaced ml_M_224 rfl rfl rfl (fun h => by cases h) (Nat.le_of_ble_eq_true rfl) hd426 ho427 (fun m431 hp432 hw434 => ?_)
              have H429 := H428 m431 hp432 hw434
              refine Wp.pick [0, 1, 2, 3] [(0, .inr (.inr 70)), (2, .inl y0), (3, .inl z7), (4, .inl z18)] rfl ?_
              exact H429
            · have H423 := H421 c419
              refine Wp.iload 4 5 d_M_unit_121 rfl ?_
              refine Wp.if_ne 143 d_M_unit_123 (by decide) (fun _ => ?_) (fun c => absurd (by decide) c)
              refine Wp.aload_n 0 0 d_M_unit_143 rfl rfl ?_
              obtain ⟨e435, P436, hd437, ho438, H439⟩ := H423
              refine Wq.VV (st := []) [] d_M_unit_144 k_M_misplaced ml_M_224 rfl rfl rfl (fun h => by cases h) (Nat.le_of_ble_eq_true rfl) hd437 ho438 (fun m442 hp443 hw445 => ?_)
              have H440 := H439 m442 hp443 hw445
              refine Wp.pick [0, 1, 2, 3] [(0, .inr (.inr 70)), (2, .inl y0), (3, .inl z7), (4, .inl z18)] rfl ?_
              exact H440
theorem s_M_unit_147 {l : Launch} {G : GT} {d : Nat} {P : Int → MM → Prop} {m : MM} (x2 : Int) (x3 : Int) (x4 : Int)  (H : wfM m → inR x2 → inR x3 → inR x4 → ∃ (e1 : Nat) (P2 : Int → MM → Prop), e1 < d ∧ CI l G Y_M_isGood e1 [.inr (.inr 70)] m P2 ∧ (∀ z7 m8, P2 z7 m8 → inR z7 → wfM m8 → ((z7 ≠ 0 → ((0 ≤ (m8 70 29) ∧ (m8 70 29) < (2 : Int)) ∧ ((x2 = 0 → ((inR ((m8 75 (m8 70 29)) + 1)) ∧ ((0 ≤ (m8 70 29) ∧ (m8 70 29) < (2 : Int)) ∧ (∀ m26, m26 = up m8 75 (m8 70 29) ((m8 75 (m8 70 29)) + 1) → ((x2 = 0 → ((inR ((m26 70 33) + 1)) ∧ (∀ m38, m38 = up m26 70 33 ((m26 70 33) + 1) → ((x4 ≠ 0 → (Wq l G false Y_M_unit d (QI P) 208 [(0, .inr (.inr 70)), (2, .inl x2), (3, .inl x3), (4, .inl x4)] [.inl 0] m38)) ∧ (¬ (x4 ≠ 0) → (Wq l G false Y_M_unit d (QI P) 208 [(0, .inr (.inr 70)), (2, .inl x2), (3, .inl x3), (4, .inl x4)] [.inl (m38 70 9)] m38)))))) ∧ (¬ (x2 = 0) → ((inR ((m26 70 33) + 0)) ∧ (∀ m48, m48 = up m26 70 33 ((m26 70 33) + 0) → ((x4 ≠ 0 → (Wq l G false Y_M_unit d (QI P) 208 [(0, .inr (.inr 70)), (2, .inl x2), (3, .inl x3), (4, .inl x4)] [.inl 0] m48)) ∧ (¬ (x4 ≠ 0) → (Wq l G false Y_M_unit d (QI P) 208 [(0, .inr (.inr 70)), (2, .inl x2), (3, .inl x3), (4, .inl x4)] [.inl (m48 70 9)] m48))))))))))) ∧ (¬ (x2 = 0) → ((inR ((m8 75 (m8 70 29)) + 0)) ∧ ((0 ≤ (m8 70 29) ∧ (m8 70 29) < (2 : Int)) ∧ (∀ m60, m60 = up m8 75 (m8 70 29) ((m8 75 (m8 70 29)) + 0) → ((x2 = 0 → ((inR ((m60 70 33) + 1)) ∧ (∀ m72, m72 = up m60 70 33 ((m60 70 33) + 1) → ((x4 ≠ 0 → (Wq l G false Y_M_unit d (QI P) 208 [(0, .inr (.inr 70)), (2, .inl x2), (3, .inl x3), (4, .inl x4)] [.inl 0] m72)) ∧ (¬ (x4 ≠ 0) → (Wq l G false Y_M_unit d (QI P) 208 [(0, .inr (.inr 70)), (2, .inl x2), (3, .inl x3), (4, .inl x4)] [.inl (m72 70 9)] m72)))))) ∧ (¬ (x2 = 0) → ((inR ((m60 70 33) + 0)) ∧ (∀ m82, m82 = up m60 70 33 ((m60 70 33) + 0) → ((x4 ≠ 0 → (Wq l G false Y_M_unit d (QI P) 208 [(0, .inr (.inr 70)), (2, .inl x2), (3, .inl x3), (4, .inl x4)] [.inl 0] m82)) ∧ (¬ (x4 ≠ 0) → (Wq l G false Y_M_unit d (QI P) 208 [(0, .inr (.inr 70)), (2, .inl x2), (3, .inl x3), (4, .inl x4)] [.inl (m82 70 9)] m82)))))))))))))) ∧ (¬ (z7 ≠ 0) → (P 1 m8))))) : Wq l G false Y_M_unit d (QI P) 147 [(0, .inr (.inr 70)), (2, .inl x2), (3, .inl x3), (4, .inl x4)] [] m := by
  refine Wp.wf (fun hw _ hl hs => ?_)
  have H0 := H hw (hl _ (List.mem_of_getElem? (i := 1) rfl)) (hl _ (List.mem_of_getElem? (i := 2) rfl)) (hl _ (List.mem_of_getElem? (i := 3) rfl))
  refine Wp.aload_n 0 0 d_M_unit_147 rfl rfl ?_
  obtain ⟨e1, P2, hd3, ho4, H5⟩ := H0
  refine Wq.VI (st := []) [] d_M_unit_148 k_M_isGood ml_M_217 rfl rfl rfl (fun h => by cases h) (Nat.le_of_ble_eq_true rfl) hd3 ho4 (fun z7 m8 hp9 hz10 hw11 => ?_)
  have H6 := H5 z7 m8 hp9 hz10 hw11
  obtain ⟨H13, H14⟩ := H6
  refine Wp.if_ne 156 d_M_unit_151 (by decide) (fun c12 => ?_) (fun c12 => ?_)
  · have H15 := H13 c12
    refine Wp.aload_n 0 0 d_M_unit_156 rfl rfl ?_
    refine Wp.getP 75 d_M_unit_157 fl_M_27 rfl rfl rfl ?_
    refine Wp.aload_n 0 0 d_M_unit_160 rfl rfl ?_
    refine Wq.getI 29 rfl d_M_unit_161 fl_M_234 rfl (Or.inl rfl) ?_
    refine Wp.dup2 d_M_unit_164 rfl rfl ?_
    obtain ⟨s17, H18⟩ := H15
    refine Wp.iald d_M_unit_165 rfl (Or.inl rfl) s17.1 s17.2 ?_
    refine Wp.iload_n 1 2 d_M_unit_166 rfl rfl ?_
    obtain ⟨H20, H21⟩ := H18
    refine Wp.if_eq 174 d_M_unit_167 (by decide) (fun c19 => ?_) (fun c19 => ?_)
    · have H22 := H20 c19
      refine Wp.iconst d_M_unit_174 (by decide) ?_
      obtain ⟨s24, H25⟩ := H22
      refine Wp.iadd d_M_unit_175 s24 ?_
      obtain ⟨s56, H57⟩ := H25
      refine Wq.iast d_M_unit_176 rfl s56.1 s56.2 (fun m26 hm27 => ?_)
      have H28 := H57 m26 hm27
      refine Wp.aload_n 0 0 d_M_unit_177 rfl rfl ?_
      refine Wp.dup d_M_unit_178 rfl ?_
      refine Wq.getI 33 rfl d_M_unit_179 fl_M_292 rfl (Or.inl rfl) ?_
      refine Wp.iload_n 1 2 d_M_unit_182 rfl rfl ?_
      obtain ⟨H32, H33⟩ := H28
      refine Wp.if_eq 190 d_M_unit_183 (by decide) (fun c31 => ?_) (fun c31 => ?_)
      · have H34 := H32 c31
        refine Wp.iconst d_M_unit_190 (by decide) ?_
        obtain ⟨s36, H37⟩ := H34
        refine Wp.iadd d_M_unit_191 s36 ?_
        refine Wq.putI 33 rfl d_M_unit_192 fl_M_292 (fun _ _ _ h => by cases h; rfl) rfl rfl rfl (fun m38 hm39 => ?_)
        have H40 := H37 m38 hm39
        refine Wp.iload 3 4 d_M_unit_195 rfl ?_
        obtain ⟨H42, H43⟩ := H40
        refine Wp.if_ne 207 d_M_unit_197 (by decide) (fun c41 => ?_) (fun c41 => ?_)
        · have H44 := H42 c41
          refine Wp.iconst d_M_unit_207 (by decide) ?_
          exact H44
        · have H45 := H43 c41
          refine Wp.aload_n 0 0 d_M_unit_200 rfl rfl ?_
          refine Wq.getI 9 rfl d_M_unit_201 fl_M_207 rfl (Or.inl rfl) ?_
          refine Wp.goto 208 d_M_unit_204 (by decide) ?_
          exact H45
      · have H35 := H33 c31
        refine Wp.iconst d_M_unit_186 (by decide) ?_
        refine Wp.goto 191 d_M_unit_187 (by decide) ?_
        obtain ⟨s46, H47⟩ := H35
        refine Wp.iadd d_M_unit_191 s46 ?_
        refine Wq.putI 33 rfl d_M_unit_192 fl_M_292 (fun _ _ _ h => by cases h; rfl) rfl rfl rfl (fun m48 hm49 => ?_)
        have H50 := H47 m48 hm49
        refine Wp.iload 3 4 d_M_unit_195 rfl ?_
        obtain ⟨H52, H53⟩ := H50
        refine Wp.if_ne 207 d_M_unit_197 (by decide) (fun c51 => ?_) (fun c51 => ?_)
        · have H54 := H52 c51
          refine Wp.iconst d_M_unit_207 (by decide) ?_
          exact H54
        · have H55 := H53 c51
          refine Wp.aload_n 0 0 d_M_unit_200 rfl rfl ?_
          refine Wq.getI 9 rfl d_M_unit_201 fl_M_207 rfl (Or.inl rfl) ?_
          refine Wp.goto 208 d_M_unit_204 (by decide) ?_
          exact H55
    · have H23 := H21 c19
      refine Wp.iconst d_M_unit_170 (by decide) ?_
      refine Wp.goto 175 d_M_unit_171 (by decide) ?_
      obtain ⟨s58, H59⟩ := H23
      refine Wp.iadd d_M_unit_175 s58 ?_
      obtain ⟨s90, H91⟩ := H59
      refine Wq.iast d_M_unit_176 rfl s90.1 s90.2 (fun m60 hm61 => ?_)
      have H62 := H91 m60 hm61
      refine Wp.aload_n 0 0 d_M_unit_177 rfl rfl ?_
      refine Wp.dup d_M_unit_178 rfl ?_
      refine Wq.getI 33 rfl d_M_unit_179 fl_M_292 rfl (Or.inl rfl) ?_
      refine Wp.iload_n 1 2 d_M_unit_182 rfl rfl ?_
      obtain ⟨H66, H67⟩ := H62
      refine Wp.if_eq 190 d_M_unit_183 (by decide) (fun c65 => ?_) (fun c65 => ?_)
      · have H68 := H66 c65
        refine Wp.iconst d_M_unit_190 (by decide) ?_
        obtain ⟨s70, H71⟩ := H68
        refine Wp.iadd d_M_unit_191 s70 ?_
        refine Wq.putI 33 rfl d_M_unit_192 fl_M_292 (fun _ _ _ h => by cases h; rfl) rfl rfl rfl (fun m72 hm73 => ?_)
        have H74 := H71 m72 hm73
        refine Wp.iload 3 4 d_M_unit_195 rfl ?_
        obtain ⟨H76, H77⟩ := H74
        refine Wp.if_ne 207 d_M_unit_197 (by decide) (fun c75 => ?_) (fun c75 => ?_)
        · have H78 := H76 c75
          refine Wp.iconst d_M_unit_207 (by decide) ?_
          exact H78
        · have H79 := H77 c75
          refine Wp.aload_n 0 0 d_M_unit_200 rfl rfl ?_
          refine Wq.getI 9 rfl d_M_unit_201 fl_M_207 rfl (Or.inl rfl) ?_
          refine Wp.goto 208 d_M_unit_204 (by decide) ?_
          exact H79
      · have H69 := H67 c65
        refine Wp.iconst d_M_unit_186 (by decide) ?_
        refine Wp.goto 191 d_M_unit_187 (by decide) ?_
        obtain ⟨s80, H81⟩ := H69
        refine Wp.iadd d_M_unit_191 s80 ?_
        refine Wq.putI 33 rfl d_M_unit_192 fl_M_292 (fun _ _ _ h => by cases h; rfl) rfl rfl rfl (fun m82 hm83 => ?_)
        have H84 := H81 m82 hm83
        refine Wp.iload 3 4 d_M_unit_195 rfl ?_
        obtain ⟨H86, H87⟩ := H84
        refine Wp.if_ne 207 d_M_unit_197 (by decide) (fun c85 => ?_) (fun c85 => ?_)
        · have H88 := H86 c85
          refine Wp.iconst d_M_unit_207 (by decide) ?_
          exact H88
        · have H89 := H87 c85
          refine Wp.aload_n 0 0 d_M_unit_200 rfl rfl ?_
          refine Wq.getI 9 rfl d_M_unit_201 fl_M_207 rfl (Or.inl rfl) ?_
          refine Wp.goto 208 d_M_unit_204 (by decide) ?_
          exact H89
  · have H16 := H14 c12
    refine Wp.iconst d_M_unit_154 (by decide) ?_
    exact Wq.zret d_M_unit_155 rfl (by decide) H16
theorem s_M_unit_208 {l : Launch} {G : GT} {d : Nat} {P : Int → MM → Prop} {m : MM} (x2 : Int) (x3 : Int) (x4 : Int) (y0 : Int)  (H : wfM m → inR x2 → inR x3 → inR x4 → inR y0 → ∃ (e1 : Nat) (P2 : MM → Prop), e1 < d ∧ CV l G Y_M_goOn e1 [.inr (.inr 70)] m P2 ∧ (∀ m8, P2 m8 → wfM m8 → ((x2 ≠ 0 → ((x2 = 0 → (∃ (e22 : Nat) (P23 : MM → Prop), e22 < d ∧ CV l G Y_M_pushE e22 [.inr (.inr 70), .inl 7, .inl 126] m8 P23 ∧ (∀ m29, P23 m29 → wfM m29 → ((inR ((m29 70 31) + 1)) ∧ (∀ m35, m35 = up m29 70 31 ((m29 70 31) + 1) → (P 1 m35)))))) ∧ (¬ (x2 = 0) → (∃ (e38 : Nat) (P39 : MM → Prop), e38 < d ∧ CV l G Y_M_pushE e38 [.inr (.inr 70), .inl 3, .inl 126] m8 P39 ∧ (∀ m45, P39 m45 → wfM m45 → ((inR ((m45 70 31) + 1)) ∧ (∀ m51, m51 = up m45 70 31 ((m45 70 31) + 1) → (P 1 m51)))))))) ∧ (¬ (x2 ≠ 0) → ((x3 = 0 → ((x4 ≠ 0 → (∃ (e64 : Nat) (P65 : MM → Prop), e64 < d ∧ CV l G Y_M_emit e64 [.inr (.inr 70), .inl x4, .inl y0] m8 P65 ∧ (∀ m71, P65 m71 → wfM m71 → (P 0 m71)))) ∧ (¬ (x4 ≠ 0) → (∃ (e75 : Nat) (P76 : MM → Prop), e75 < d ∧ CV l G Y_M_emit e75 [.inr (.inr 70), .inl 110, .inl y0] m8 P76 ∧ (∀ m82, P76 m82 → wfM m82 → (P 0 m82)))))) ∧ (¬ (x3 = 0) → ((x2 = 0 → (∃ (e91 : Nat) (P92 : MM → Prop), e91 < d ∧ CV l G Y_M_pushE e91 [.inr (.inr 70), .inl 7, .inl 126] m8 P92 ∧ (∀ m98, P92 m98 → wfM m98 → ((inR ((m98 70 31) + 1)) ∧ (∀ m104, m104 = up m98 70 31 ((m98 70 31) + 1) → (P 1 m104)))))) ∧ (¬ (x2 = 0) → (∃ (e107 : Nat) (P108 : MM → Prop), e107 < d ∧ CV l G Y_M_pushE e107 [.inr (.inr 70), .inl 3, .inl 126] m8 P108 ∧ (∀ m114, P108 m114 → wfM m114 → ((inR ((m114 70 31) + 1)) ∧ (∀ m120, m120 = up m114 70 31 ((m114 70 31) + 1) → (P 1 m120))))))))))))) : Wq l G false Y_M_unit d (QI P) 208 [(0, .inr (.inr 70)), (2, .inl x2), (3, .inl x3), (4, .inl x4)] [.inl y0] m := by
  refine Wp.wf (fun hw _ hl hs => ?_)
  have H0 := H hw (hl _ (List.mem_of_getElem? (i := 1) rfl)) (hl _ (List.mem_of_getElem? (i := 2) rfl)) (hl _ (List.mem_of_getElem? (i := 3) rfl)) (hs _ (List.mem_of_getElem? (i := 0) rfl))
  refine Wp.istore 6 [(0, .inr (.inr 70)), (2, .inl x2), (3, .inl x3), (4, .inl x4), (6, .inl y0)] d_M_unit_208 (by decide) rfl ?_
  refine Wp.aload_n 0 0 d_M_unit_210 rfl rfl ?_
  obtain ⟨e1, P2, hd3, ho4, H5⟩ := H0
  refine Wq.VV (st := []) [] d_M_unit_211 k_M_goOn ml_M_221 rfl rfl rfl (fun h => by cases h) (Nat.le_of_ble_eq_true rfl) hd3 ho4 (fun m8 hp9 hw11 => ?_)
  have H6 := H5 m8 hp9 hw11
  refine Wp.iload_n 1 2 d_M_unit_214 rfl rfl ?_
  obtain ⟨H13, H14⟩ := H6
  refine Wp.if_ne 222 d_M_unit_215 (by decide) (fun c12 => ?_) (fun c12 => ?_)
  · have H15 := H13 c12
    refine Wp.aload_n 0 0 d_M_unit_222 rfl rfl ?_
    refine Wp.iload_n 1 2 d_M_unit_223 rfl rfl ?_
    obtain ⟨H18, H19⟩ := H15
    refine Wp.if_eq 231 d_M_unit_224 (by decide) (fun c17 => ?_) (fun c17 => ?_)
    · have H20 := H18 c17
      refine Wp.bipush d_M_unit_231 (by decide) (by decide) ?_
      refine Wp.bipush d_M_unit_233 (by decide) (by decide) ?_
      obtain ⟨e22, P23, hd24, ho25, H26⟩ := H20
      refine Wq.VV (st := []) [.inl 7, .inl 126] d_M_unit_235 k_M_pushE ml_M_304 rfl rfl rfl (fun h => by cases h) (Nat.le_of_ble_eq_true rfl) hd24 ho25 (fun m29 hp30 hw32 => ?_)
      have H27 := H26 m29 hp30 hw32
      refine Wp.aload_n 0 0 d_M_unit_238 rfl rfl ?_
      refine Wp.dup d_M_unit_239 rfl ?_
      refine Wq.getI 31 rfl d_M_unit_240 fl_M_301 rfl (Or.inl rfl) ?_
      refine Wp.iconst d_M_unit_243 (by decide) ?_
      obtain ⟨s33, H34⟩ := H27
      refine Wp.iadd d_M_unit_244 s33 ?_
      refine Wq.putI 31 rfl d_M_unit_245 fl_M_301 (fun _ _ _ h => by cases h; rfl) rfl rfl rfl (fun m35 hm36 => ?_)
      have H37 := H34 m35 hm36
      refine Wp.iconst d_M_unit_248 (by decide) ?_
      exact Wq.zret d_M_unit_249 rfl (by decide) H37
    · have H21 := H19 c17
      refine Wp.iconst d_M_unit_227 (by decide) ?_
      refine Wp.goto 233 d_M_unit_228 (by decide) ?_
      refine Wp.bipush d_M_unit_233 (by decide) (by decide) ?_
      obtain ⟨e38, P39, hd40, ho41, H42⟩ := H21
      refine Wq.VV (st := []) [.inl 3, .inl 126] d_M_unit_235 k_M_pushE ml_M_304 rfl rfl rfl (fun h => by cases h) (Nat.le_of_ble_eq_true rfl) hd40 ho41 (fun m45 hp46 hw48 => ?_)
      have H43 := H42 m45 hp46 hw48
      refine Wp.aload_n 0 0 d_M_unit_238 rfl rfl ?_
      refine Wp.dup d_M_unit_239 rfl ?_
      refine Wq.getI 31 rfl d_M_unit_240 fl_M_301 rfl (Or.inl rfl) ?_
      refine Wp.iconst d_M_unit_243 (by decide) ?_
      obtain ⟨s49, H50⟩ := H43
      refine Wp.iadd d_M_unit_244 s49 ?_
      refine Wq.putI 31 rfl d_M_unit_245 fl_M_301 (fun _ _ _ h => by cases h; rfl) rfl rfl rfl (fun m51 hm52 => ?_)
      have H53 := H50 m51 hm52
      refine Wp.iconst d_M_unit_248 (by decide) ?_
      exact Wq.zret d_M_unit_249 rfl (by decide) H53
  · have H16 := H14 c12
    refine Wp.iload_n 2 3 d_M_unit_218 rfl rfl ?_
    obtain ⟨H55, H56⟩ := H16
    refine Wp.if_eq 250 d_M_unit_219 (by decide) (fun c54 => ?_) (fun c54 => ?_)
    · have H57 := H55 c54
      refine Wp.aload_n 0 0 d_M_unit_250 rfl rfl ?_
      refine Wp.iload 3 4 d_M_unit_251 rfl ?_
      obtain ⟨H60, H61⟩ := H57
      refine Wp.if_ne 261 d_M_unit_253 (by decide) (fun c59 => ?_) (fun c59 => ?_)
      · have H62 := H60 c59
        refine Wp.iload 3 4 d_M_unit_261 rfl ?_
        refine Wp.iload 4 6 d_M_unit_263 rfl ?_
        obtain ⟨e64, P65, hd66, ho67, H68⟩ := H62
        refine Wq.VV (st := []) [.inl x4, .inl y0] d_M_unit_265 k_M_emit ml_M_316 rfl rfl rfl (fun h => by cases h) (Nat.le_of_ble_eq_true rfl) hd66 ho67 (fun m71 hp72 hw74 => ?_)
        have H69 := H68 m71 hp72 hw74
        refine Wp.iconst d_M_unit_268 (by decide) ?_
        exact Wq.zret d_M_unit_269 rfl (by decide) H69
      · have H63 := H61 c59
        refine Wp.bipush d_M_unit_256 (by decide) (by decide) ?_
        refine Wp.goto 263 d_M_unit_258 (by decide) ?_
        refine Wp.iload 4 6 d_M_unit_263 rfl ?_
        obtain ⟨e75, P76, hd77, ho78, H79⟩ := H63
        refine Wq.VV (st := []) [.inl 110, .inl y0] d_M_unit_265 k_M_emit ml_M_316 rfl rfl rfl (fun h => by cases h) (Nat.le_of_ble_eq_true rfl) hd77 ho78 (fun m82 hp83 hw85 => ?_)
        have H80 := H79 m82 hp83 hw85
        refine Wp.iconst d_M_unit_268 (by decide) ?_
        exact Wq.zret d_M_unit_269 rfl (by decide) H80
    · have H58 := H56 c54
      refine Wp.aload_n 0 0 d_M_unit_222 rfl rfl ?_
      refine Wp.iload_n 1 2 d_M_unit_223 rfl rfl ?_
      obtain ⟨H87, H88⟩ := H58
      refine Wp.if_eq 231 d_M_unit_224 (by decide) (fun c86 => ?_) (fun c86 => ?_)
      · have H89 := H87 c86
        refine Wp.bipush d_M_unit_231 (by decide) (by decide) ?_
        refine Wp.bipush d_M_unit_233 (by decide) (by decide) ?_
        obtain ⟨e91, P92, hd93, ho94, H95⟩ := H89
        refine Wq.VV (st := []) [.inl 7, .inl 126] d_M_unit_235 k_M_pushE ml_M_304 rfl rfl rfl (fun h => by cases h) (Nat.le_of_ble_eq_true rfl) hd93 ho94 (fun m98 hp99 hw101 => ?_)
        have H96 := H95 m98 hp99 hw101
        refine Wp.aload_n 0 0 d_M_unit_238 rfl rfl ?_
        refine Wp.dup d_M_unit_239 rfl ?_
        refine Wq.getI 31 rfl d_M_unit_240 fl_M_301 rfl (Or.inl rfl) ?_
        refine Wp.iconst d_M_unit_243 (by decide) ?_
        obtain ⟨s102, H103⟩ := H96
        refine Wp.iadd d_M_unit_244 s102 ?_
        refine Wq.putI 31 rfl d_M_unit_245 fl_M_301 (fun _ _ _ h => by cases h; rfl) rfl rfl rfl (fun m104 hm105 => ?_)
        have H106 := H103 m104 hm105
        refine Wp.iconst d_M_unit_248 (by decide) ?_
        exact Wq.zret d_M_unit_249 rfl (by decide) H106
      · have H90 := H88 c86
        refine Wp.iconst d_M_unit_227 (by decide) ?_
        refine Wp.goto 233 d_M_unit_228 (by decide) ?_
        refine Wp.bipush d_M_unit_233 (by decide) (by decide) ?_
        obtain ⟨e107, P108, hd109, ho110, H111⟩ := H90
        refine Wq.VV (st := []) [.inl 3, .inl 126] d_M_unit_235 k_M_pushE ml_M_304 rfl rfl rfl (fun h => by cases h) (Nat.le_of_ble_eq_true rfl) hd109 ho110 (fun m114 hp115 hw117 => ?_)
        have H112 := H111 m114 hp115 hw117
        refine Wp.aload_n 0 0 d_M_unit_238 rfl rfl ?_
        refine Wp.dup d_M_unit_239 rfl ?_
        refine Wq.getI 31 rfl d_M_unit_240 fl_M_301 rfl (Or.inl rfl) ?_
        refine Wp.iconst d_M_unit_243 (by decide) ?_
        obtain ⟨s118, H119⟩ := H112
        refine Wp.iadd d_M_unit_244 s118 ?_
        refine Wq.putI 31 rfl d_M_unit_245 fl_M_301 (fun _ _ _ h => by cases h; rfl) rfl rfl rfl (fun m120 hm121 => ?_)
        have H122 := H119 m120 hm121
        refine Wp.iconst d_M_unit_248 (by decide) ?_
        exact Wq.zret d_M_unit_249 rfl (by decide) H122
theorem d_M_isSignHere_0 : decode Y_M_isSignHere.2.1 0 = .ok (.aload_n 0, 1) := by decide +kernel
theorem d_M_isSignHere_1 : decode Y_M_isSignHere.2.1 1 = .ok (.getfield 189, 3) := by decide +kernel
theorem d_M_isSignHere_4 : decode Y_M_isSignHere.2.1 4 = .ok (.iconst 5, 1) := by decide +kernel
theorem d_M_isSignHere_5 : decode Y_M_isSignHere.2.1 5 = .ok (.if_icmp .ne 19, 3) := by decide +kernel
theorem d_M_isSignHere_8 : decode Y_M_isSignHere.2.1 8 = .ok (.aload_n 0, 1) := by decide +kernel
theorem d_M_isSignHere_9 : decode Y_M_isSignHere.2.1 9 = .ok (.aload_n 0, 1) := by decide +kernel
theorem d_M_isSignHere_10 : decode Y_M_isSignHere.2.1 10 = .ok (.getfield 182, 3) := by decide +kernel
theorem d_M_isSignHere_13 : decode Y_M_isSignHere.2.1 13 = .ok (.invokevirtual 185, 3) := by decide +kernel
theorem d_M_isSignHere_16 : decode Y_M_isSignHere.2.1 16 = .ok (.iload_n 1, 1) := by decide +kernel
theorem d_M_isSignHere_17 : decode Y_M_isSignHere.2.1 17 = .ok (.if_icmp .ne 7, 3) := by decide +kernel
theorem d_M_isSignHere_20 : decode Y_M_isSignHere.2.1 20 = .ok (.iconst 1, 1) := by decide +kernel
theorem d_M_isSignHere_21 : decode Y_M_isSignHere.2.1 21 = .ok (.goto 4, 3) := by decide +kernel
theorem d_M_isSignHere_24 : decode Y_M_isSignHere.2.1 24 = .ok (.iconst 0, 1) := by decide +kernel
theorem d_M_isSignHere_25 : decode Y_M_isSignHere.2.1 25 = .ok (.ireturn, 1) := by decide +kernel
theorem e_M_isSignHere {l : Launch} {G : GT} {d : Nat} {P : Int → MM → Prop} {m : MM} (x1 : Int)  (H : wfM m → inR x1 → ((m 70 8) ≠ 5 → (P 0 m)) ∧ (¬ ((m 70 8) ≠ 5) → (∃ (e6 : Nat) (P7 : Int → MM → Prop), e6 < d ∧ CI l G Y_M_sign e6 [.inr (.inr 70), .inl (m 70 6)] m P7 ∧ (∀ z12 m13, P7 z12 m13 → inR z12 → wfM m13 → ((z12 ≠ x1 → (P 0 m13)) ∧ (¬ (z12 ≠ x1) → (P 1 m13))))))) : CI l G Y_M_isSignHere d [.inr (.inr 70), .inl x1] m P := by
  refine CI.of [(0, .inr (.inr 70)), (1, .inl x1)] k_M_isSignHere.1 (Nat.le_of_ble_eq_true rfl) rfl (Wp.wf (fun hw _ hl hs => ?_))
  have H0 := H hw (hl _ (List.mem_of_getElem? (i := 1) rfl))
  refine Wp.aload_n 0 0 d_M_isSignHere_0 rfl rfl ?_
  refine Wq.getI 8 rfl d_M_isSignHere_1 fl_M_189 rfl (Or.inl rfl) ?_
  refine Wp.iconst d_M_isSignHere_4 (by decide) ?_
  obtain ⟨H2, H3⟩ := H0
  refine Wp.icmp_ne 24 d_M_isSignHere_5 (by decide) (fun c1 => ?_) (fun c1 => ?_)
  · have H4 := H2 c1
    refine Wp.iconst d_M_isSignHere_24 (by decide) ?_
    exact Wq.zret d_M_isSignHere_25 rfl (by decide) H4
  · have H5 := H3 c1
    refine Wp.aload_n 0 0 d_M_isSignHere_8 rfl rfl ?_
    refine Wp.aload_n 0 0 d_M_isSignHere_9 rfl rfl ?_
    refine Wq.getI 6 rfl d_M_isSignHere_10 fl_M_182 rfl (Or.inl rfl) ?_
    obtain ⟨e6, P7, hd8, ho9, H10⟩ := H5
    refine Wq.VI (st := []) [.inl (m 70 6)] d_M_isSignHere_13 k_M_sign ml_M_185 rfl rfl rfl (fun h => by cases h) (Nat.le_of_ble_eq_true rfl) hd8 ho9 (fun z12 m13 hp14 hz15 hw16 => ?_)
    have H11 := H10 z12 m13 hp14 hz15 hw16
    refine Wp.iload_n 1 1 d_M_isSignHere_16 rfl rfl ?_
    obtain ⟨H18, H19⟩ := H11
    refine Wp.icmp_ne 24 d_M_isSignHere_17 (by decide) (fun c17 => ?_) (fun c17 => ?_)
    · have H20 := H18 c17
      refine Wp.iconst d_M_isSignHere_24 (by decide) ?_
      exact Wq.zret d_M_isSignHere_25 rfl (by decide) H20
    · have H21 := H19 c17
      refine Wp.iconst d_M_isSignHere_20 (by decide) ?_
      refine Wp.goto 25 d_M_isSignHere_21 (by decide) ?_
      exact Wq.zret d_M_isSignHere_25 rfl (by decide) H21
theorem d_M_wordHere_0 : decode Y_M_wordHere.2.1 0 = .ok (.aload_n 0, 1) := by decide +kernel
theorem d_M_wordHere_1 : decode Y_M_wordHere.2.1 1 = .ok (.ldc2_w 165, 3) := by decide +kernel
theorem d_M_wordHere_4 : decode Y_M_wordHere.2.1 4 = .ok (.invokevirtual 227, 3) := by decide +kernel
theorem d_M_wordHere_7 : decode Y_M_wordHere.2.1 7 = .ok (.ifCond .eq 6, 3) := by decide +kernel
theorem d_M_wordHere_10 : decode Y_M_wordHere.2.1 10 = .ok (.bipush 103, 2) := by decide +kernel
theorem d_M_wordHere_12 : decode Y_M_wordHere.2.1 12 = .ok (.ireturn, 1) := by decide +kernel
theorem d_M_wordHere_13 : decode Y_M_wordHere.2.1 13 = .ok (.aload_n 0, 1) := by decide +kernel
theorem d_M_wordHere_14 : decode Y_M_wordHere.2.1 14 = .ok (.ldc2_w 167, 3) := by decide +kernel
theorem d_M_wordHere_17 : decode Y_M_wordHere.2.1 17 = .ok (.invokevirtual 227, 3) := by decide +kernel
theorem d_M_wordHere_20 : decode Y_M_wordHere.2.1 20 = .ok (.ifCond .eq 6, 3) := by decide +kernel
theorem d_M_wordHere_23 : decode Y_M_wordHere.2.1 23 = .ok (.bipush 98, 2) := by decide +kernel
theorem d_M_wordHere_25 : decode Y_M_wordHere.2.1 25 = .ok (.ireturn, 1) := by decide +kernel
theorem d_M_wordHere_26 : decode Y_M_wordHere.2.1 26 = .ok (.aload_n 0, 1) := by decide +kernel
theorem d_M_wordHere_27 : decode Y_M_wordHere.2.1 27 = .ok (.ldc2_w 169, 3) := by decide +kernel
theorem d_M_wordHere_30 : decode Y_M_wordHere.2.1 30 = .ok (.invokevirtual 227, 3) := by decide +kernel
theorem d_M_wordHere_33 : decode Y_M_wordHere.2.1 33 = .ok (.ifCond .eq 6, 3) := by decide +kernel
theorem d_M_wordHere_36 : decode Y_M_wordHere.2.1 36 = .ok (.bipush 117, 2) := by decide +kernel
theorem d_M_wordHere_38 : decode Y_M_wordHere.2.1 38 = .ok (.ireturn, 1) := by decide +kernel
theorem d_M_wordHere_39 : decode Y_M_wordHere.2.1 39 = .ok (.aload_n 0, 1) := by decide +kernel
theorem d_M_wordHere_40 : decode Y_M_wordHere.2.1 40 = .ok (.ldc2_w 171, 3) := by decide +kernel
theorem d_M_wordHere_43 : decode Y_M_wordHere.2.1 43 = .ok (.invokevirtual 227, 3) := by decide +kernel
theorem d_M_wordHere_46 : decode Y_M_wordHere.2.1 46 = .ok (.ifCond .eq 8, 3) := by decide +kernel
theorem d_M_wordHere_49 : decode Y_M_wordHere.2.1 49 = .ok (.bipush 100, 2) := by decide +kernel
theorem d_M_wordHere_51 : decode Y_M_wordHere.2.1 51 = .ok (.goto 4, 3) := by decide +kernel
theorem d_M_wordHere_54 : decode Y_M_wordHere.2.1 54 = .ok (.iconst 0, 1) := by decide +kernel
theorem d_M_wordHere_55 : decode Y_M_wordHere.2.1 55 = .ok (.ireturn, 1) := by decide +kernel
theorem e_M_wordHere {l : Launch} {G : GT} {d : Nat} {P : Int → MM → Prop} {m : MM}   (H : wfM m → ∃ (e1 : Nat) (P2 : Int → MM → Prop), e1 < d ∧ CI l G Y_M_isWord e1 [.inr (.inr 70), .inr (.inl 113740958232179)] m P2 ∧ (∀ z7 m8, P2 z7 m8 → inR z7 → wfM m8 → ((z7 = 0 → (∃ (e17 : Nat) (P18 : Int → MM → Prop), e17 < d ∧ CI l G Y_M_isWord e17 [.inr (.inr 70), .inr (.inl 1651665261)] m8 P18 ∧ (∀ z23 m24, P18 z23 m24 → inR z23 → wfM m24 → ((z23 = 0 → (∃ (e33 : Nat) (P34 : Int → MM → Prop), e33 < d ∧ CI l G Y_M_isWord e33 [.inr (.inr 70), .inr (.inl 121450625394034)] m24 P34 ∧ (∀ z39 m40, P34 z39 m40 → inR z39 → wfM m40 → ((z39 = 0 → (∃ (e49 : Nat) (P50 : Int → MM → Prop), e49 < d ∧ CI l G Y_M_isWord e49 [.inr (.inr 70), .inr (.inl 6578553)] m40 P50 ∧ (∀ z55 m56, P50 z55 m56 → inR z55 → wfM m56 → ((z55 = 0 → (P 0 m56)) ∧ (¬ (z55 = 0) → (P 100 m56)))))) ∧ (¬ (z39 = 0) → (P 117 m40)))))) ∧ (¬ (z23 = 0) → (P 98 m24)))))) ∧ (¬ (z7 = 0) → (P 103 m8))))) : CI l G Y_M_wordHere d [.inr (.inr 70)] m P := by
  refine CI.of [(0, .inr (.inr 70))] k_M_wordHere.1 (Nat.le_of_ble_eq_true rfl) rfl (Wp.wf (fun hw _ hl hs => ?_))
  have H0 := H hw
  refine Wp.aload_n 0 0 d_M_wordHere_0 rfl rfl ?_
  refine Wp.ldc2 (z := 113740958232179) d_M_wordHere_1 kl_M_165 (by decide) (by decide) ?_
  obtain ⟨e1, P2, hd3, ho4, H5⟩ := H0
  refine Wq.VI (st := []) [.inr (.inl 113740958232179)] d_M_wordHere_4 k_M_isWord ml_M_227 rfl rfl rfl (fun h => by cases h) (Nat.le_of_ble_eq_true rfl) hd3 ho4 (fun z7 m8 hp9 hz10 hw11 => ?_)
  have H6 := H5 z7 m8 hp9 hz10 hw11
  obtain ⟨H13, H14⟩ := H6
  refine Wp.if_eq 13 d_M_wordHere_7 (by decide) (fun c12 => ?_) (fun c12 => ?_)
  · have H15 := H13 c12
    refine Wp.aload_n 0 0 d_M_wordHere_13 rfl rfl ?_
    refine Wp.ldc2 (z := 1651665261) d_M_wordHere_14 kl_M_167 (by decide) (by decide) ?_
    obtain ⟨e17, P18, hd19, ho20, H21⟩ := H15
    refine Wq.VI (st := []) [.inr (.inl 1651665261)] d_M_wordHere_17 k_M_isWord ml_M_227 rfl rfl rfl (fun h => by cases h) (Nat.le_of_ble_eq_true rfl) hd19 ho20 (fun z23 m24 hp25 hz26 hw27 => ?_)
    have H22 := H21 z23 m24 hp25 hz26 hw27
    obtain ⟨H29, H30⟩ := H22
    refine Wp.if_eq 26 d_M_wordHere_20 (by decide) (fun c28 => ?_) (fun c28 => ?_)
    · have H31 := H29 c28
      refine Wp.aload_n 0 0 d_M_wordHere_26 rfl rfl ?_
      refine Wp.ldc2 (z := 121450625394034) d_M_wordHere_27 kl_M_169 (by decide) (by decide) ?_
      obtain ⟨e33, P34, hd35, ho36, H37⟩ := H31
      refine Wq.VI (st := []) [.inr (.inl 121450625394034)] d_M_wordHere_30 k_M_isWord ml_M_227 rfl rfl rfl (fun h => by cases h) (Nat.le_of_ble_eq_true rfl) hd35 ho36 (fun z39 m40 hp41 hz42 hw43 => ?_)
      have H38 := H37 z39 m40 hp41 hz42 hw43
      obtain ⟨H45, H46⟩ := H38
      refine Wp.if_eq 39 d_M_wordHere_33 (by decide) (fun c44 => ?_) (fun c44 => ?_)
      · have H47 := H45 c44
        refine Wp.aload_n 0 0 d_M_wordHere_39 rfl rfl ?_
        refine Wp.ldc2 (z := 6578553) d_M_wordHere_40 kl_M_171 (by decide) (by decide) ?_
        obtain ⟨e49, P50, hd51, ho52, H53⟩ := H47
        refine Wq.VI (st := []) [.inr (.inl 6578553)] d_M_wordHere_43 k_M_isWord ml_M_227 rfl rfl rfl (fun h => by cases h) (Nat.le_of_ble_eq_true rfl) hd51 ho52 (fun z55 m56 hp57 hz58 hw59 => ?_)
        have H54 := H53 z55 m56 hp57 hz58 hw59
        obtain ⟨H61, H62⟩ := H54
        refine Wp.if_eq 54 d_M_wordHere_46 (by decide) (fun c60 => ?_) (fun c60 => ?_)
        · have H63 := H61 c60
          refine Wp.iconst d_M_wordHere_54 (by decide) ?_
          exact Wq.iret d_M_wordHere_55 rfl H63
        · have H64 := H62 c60
          refine Wp.bipush d_M_wordHere_49 (by decide) (by decide) ?_
          refine Wp.goto 55 d_M_wordHere_51 (by decide) ?_
          exact Wq.iret d_M_wordHere_55 rfl H64
      · have H48 := H46 c44
        refine Wp.bipush d_M_wordHere_36 (by decide) (by decide) ?_
        exact Wq.iret d_M_wordHere_38 rfl H48
    · have H32 := H30 c28
      refine Wp.bipush d_M_wordHere_23 (by decide) (by decide) ?_
      exact Wq.iret d_M_wordHere_25 rfl H32
  · have H16 := H14 c12
    refine Wp.bipush d_M_wordHere_10 (by decide) (by decide) ?_
    exact Wq.iret d_M_wordHere_12 rfl H16
theorem d_M_emit_0 : decode Y_M_emit.2.1 0 = .ok (.aload_n 0, 1) := by decide +kernel
theorem d_M_emit_1 : decode Y_M_emit.2.1 1 = .ok (.getfield 58, 3) := by decide +kernel
theorem d_M_emit_4 : decode Y_M_emit.2.1 4 = .ok (.aload_n 0, 1) := by decide +kernel
theorem d_M_emit_5 : decode Y_M_emit.2.1 5 = .ok (.getfield 237, 3) := by decide +kernel
theorem d_M_emit_8 : decode Y_M_emit.2.1 8 = .ok (.iload_n 1, 1) := by decide +kernel
theorem d_M_emit_9 : decode Y_M_emit.2.1 9 = .ok (.iastore, 1) := by decide +kernel
theorem d_M_emit_10 : decode Y_M_emit.2.1 10 = .ok (.aload_n 0, 1) := by decide +kernel
theorem d_M_emit_11 : decode Y_M_emit.2.1 11 = .ok (.getfield 61, 3) := by decide +kernel
theorem d_M_emit_14 : decode Y_M_emit.2.1 14 = .ok (.aload_n 0, 1) := by decide +kernel
theorem d_M_emit_15 : decode Y_M_emit.2.1 15 = .ok (.getfield 237, 3) := by decide +kernel
theorem d_M_emit_18 : decode Y_M_emit.2.1 18 = .ok (.iload_n 2, 1) := by decide +kernel
theorem d_M_emit_19 : decode Y_M_emit.2.1 19 = .ok (.iastore, 1) := by decide +kernel
theorem d_M_emit_20 : decode Y_M_emit.2.1 20 = .ok (.aload_n 0, 1) := by decide +kernel
theorem d_M_emit_21 : decode Y_M_emit.2.1 21 = .ok (.dup, 1) := by decide +kernel
theorem d_M_emit_22 : decode Y_M_emit.2.1 22 = .ok (.getfield 237, 3) := by decide +kernel
theorem d_M_emit_25 : decode Y_M_emit.2.1 25 = .ok (.iconst 1, 1) := by decide +kernel
theorem d_M_emit_26 : decode Y_M_emit.2.1 26 = .ok (.iadd, 1) := by decide +kernel
theorem d_M_emit_27 : decode Y_M_emit.2.1 27 = .ok (.putfield 237, 3) := by decide +kernel
theorem d_M_emit_30 : decode Y_M_emit.2.1 30 = .ok (.return_, 1) := by decide +kernel
theorem e_M_emit {l : Launch} {G : GT} {d : Nat} {P : MM → Prop} {m : MM} (x1 : Int) (x2 : Int)  (H : wfM m → inR x1 → inR x2 → (0 ≤ (m 70 30) ∧ (m 70 30) < (1120 : Int)) ∧ (∀ m1, m1 = up m 85 (m 70 30) x1 → ((0 ≤ (m1 70 30) ∧ (m1 70 30) < (1120 : Int)) ∧ (∀ m6, m6 = up m1 86 (m1 70 30) x2 → ((inR ((m6 70 30) + 1)) ∧ (∀ m13, m13 = up m6 70 30 ((m6 70 30) + 1) → (P m13))))))) : CV l G Y_M_emit d [.inr (.inr 70), .inl x1, .inl x2] m P := by
  refine CV.of [(0, .inr (.inr 70)), (1, .inl x1), (2, .inl x2)] k_M_emit.1 (Nat.le_of_ble_eq_true rfl) rfl (Wp.wf (fun hw _ hl hs => ?_))
  have H0 := H hw (hl _ (List.mem_of_getElem? (i := 1) rfl)) (hl _ (List.mem_of_getElem? (i := 2) rfl))
  refine Wp.aload_n 0 0 d_M_emit_0 rfl rfl ?_
  refine Wp.getP 85 d_M_emit_1 fl_M_58 rfl rfl rfl ?_
  refine Wp.aload_n 0 0 d_M_emit_4 rfl rfl ?_
  refine Wq.getI 30 rfl d_M_emit_5 fl_M_237 rfl (Or.inl rfl) ?_
  refine Wp.iload_n 1 1 d_M_emit_8 rfl rfl ?_
  obtain ⟨s18, H19⟩ := H0
  refine Wq.iast d_M_emit_9 rfl s18.1 s18.2 (fun m1 hm2 => ?_)
  have H3 := H19 m1 hm2
  refine Wp.aload_n 0 0 d_M_emit_10 rfl rfl ?_
  refine Wp.getP 86 d_M_emit_11 fl_M_61 rfl rfl rfl ?_
  refine Wp.aload_n 0 0 d_M_emit_14 rfl rfl ?_
  refine Wq.getI 30 rfl d_M_emit_15 fl_M_237 rfl (Or.inl rfl) ?_
  refine Wp.iload_n 2 2 d_M_emit_18 rfl rfl ?_
  obtain ⟨s16, H17⟩ := H3
  refine Wq.iast d_M_emit_19 rfl s16.1 s16.2 (fun m6 hm7 => ?_)
  have H8 := H17 m6 hm7
  refine Wp.aload_n 0 0 d_M_emit_20 rfl rfl ?_
  refine Wp.dup d_M_emit_21 rfl ?_
  refine Wq.getI 30 rfl d_M_emit_22 fl_M_237 rfl (Or.inl rfl) ?_
  refine Wp.iconst d_M_emit_25 (by decide) ?_
  obtain ⟨s11, H12⟩ := H8
  refine Wp.iadd d_M_emit_26 s11 ?_
  refine Wq.putI 30 rfl d_M_emit_27 fl_M_237 (fun _ _ _ h => by cases h; rfl) rfl rfl rfl (fun m13 hm14 => ?_)
  have H15 := H12 m13 hm14
  exact Wq.vret d_M_emit_30 rfl H15
theorem d_M_behindUnit_0 : decode Y_M_behindUnit.2.1 0 = .ok (.aload_n 0, 1) := by decide +kernel
theorem d_M_behindUnit_1 : decode Y_M_behindUnit.2.1 1 = .ok (.invokevirtual 319, 3) := by decide +kernel
theorem d_M_behindUnit_4 : decode Y_M_behindUnit.2.1 4 = .ok (.istore_n 1, 1) := by decide +kernel
theorem d_M_behindUnit_5 : decode Y_M_behindUnit.2.1 5 = .ok (.iload_n 1, 1) := by decide +kernel
theorem d_M_behindUnit_6 : decode Y_M_behindUnit.2.1 6 = .ok (.iconst 4, 1) := by decide +kernel
theorem d_M_behindUnit_7 : decode Y_M_behindUnit.2.1 7 = .ok (.if_icmp .ne 16, 3) := by decide +kernel
theorem d_M_behindUnit_10 : decode Y_M_behindUnit.2.1 10 = .ok (.aload_n 0, 1) := by decide +kernel
theorem d_M_behindUnit_11 : decode Y_M_behindUnit.2.1 11 = .ok (.invokevirtual 322, 3) := by decide +kernel
theorem d_M_behindUnit_14 : decode Y_M_behindUnit.2.1 14 = .ok (.ifCond .eq 9, 3) := by decide +kernel
theorem d_M_behindUnit_17 : decode Y_M_behindUnit.2.1 17 = .ok (.aload_n 0, 1) := by decide +kernel
theorem d_M_behindUnit_18 : decode Y_M_behindUnit.2.1 18 = .ok (.invokevirtual 224, 3) := by decide +kernel
theorem d_M_behindUnit_21 : decode Y_M_behindUnit.2.1 21 = .ok (.iconst 1, 1) := by decide +kernel
theorem d_M_behindUnit_22 : decode Y_M_behindUnit.2.1 22 = .ok (.ireturn, 1) := by decide +kernel
theorem d_M_behindUnit_23 : decode Y_M_behindUnit.2.1 23 = .ok (.aload_n 0, 1) := by decide +kernel
theorem d_M_behindUnit_24 : decode Y_M_behindUnit.2.1 24 = .ok (.getfield 64, 3) := by decide +kernel
theorem d_M_behindUnit_27 : decode Y_M_behindUnit.2.1 27 = .ok (.aload_n 0, 1) := by decide +kernel
theorem d_M_behindUnit_28 : decode Y_M_behindUnit.2.1 28 = .ok (.getfield 298, 3) := by decide +kernel
theorem d_M_behindUnit_31 : decode Y_M_behindUnit.2.1 31 = .ok (.iconst 1, 1) := by decide +kernel
theorem d_M_behindUnit_32 : decode Y_M_behindUnit.2.1 32 = .ok (.isub, 1) := by decide +kernel
theorem d_M_behindUnit_33 : decode Y_M_behindUnit.2.1 33 = .ok (.iaload, 1) := by decide +kernel
theorem d_M_behindUnit_34 : decode Y_M_behindUnit.2.1 34 = .ok (.bipush 6, 2) := by decide +kernel
theorem d_M_behindUnit_36 : decode Y_M_behindUnit.2.1 36 = .ok (.if_icmp .gt 68, 3) := by decide +kernel
theorem d_M_behindUnit_39 : decode Y_M_behindUnit.2.1 39 = .ok (.aload_n 0, 1) := by decide +kernel
theorem d_M_behindUnit_40 : decode Y_M_behindUnit.2.1 40 = .ok (.getfield 64, 3) := by decide +kernel
theorem d_M_behindUnit_43 : decode Y_M_behindUnit.2.1 43 = .ok (.aload_n 0, 1) := by decide +kernel
theorem d_M_behindUnit_44 : decode Y_M_behindUnit.2.1 44 = .ok (.getfield 298, 3) := by decide +kernel
theorem d_M_behindUnit_47 : decode Y_M_behindUnit.2.1 47 = .ok (.iconst 1, 1) := by decide +kernel
theorem d_M_behindUnit_48 : decode Y_M_behindUnit.2.1 48 = .ok (.isub, 1) := by decide +kernel
theorem d_M_behindUnit_49 : decode Y_M_behindUnit.2.1 49 = .ok (.iaload, 1) := by decide +kernel
theorem d_M_behindUnit_50 : decode Y_M_behindUnit.2.1 50 = .ok (.iload_n 1, 1) := by decide +kernel
theorem d_M_behindUnit_51 : decode Y_M_behindUnit.2.1 51 = .ok (.if_icmp .lt 53, 3) := by decide +kernel
theorem d_M_behindUnit_54 : decode Y_M_behindUnit.2.1 54 = .ok (.aload_n 0, 1) := by decide +kernel
theorem d_M_behindUnit_55 : decode Y_M_behindUnit.2.1 55 = .ok (.dup, 1) := by decide +kernel
theorem d_M_behindUnit_56 : decode Y_M_behindUnit.2.1 56 = .ok (.getfield 298, 3) := by decide +kernel
theorem d_M_behindUnit_59 : decode Y_M_behindUnit.2.1 59 = .ok (.iconst 1, 1) := by decide +kernel
theorem d_M_behindUnit_60 : decode Y_M_behindUnit.2.1 60 = .ok (.isub, 1) := by decide +kernel
theorem d_M_behindUnit_61 : decode Y_M_behindUnit.2.1 61 = .ok (.putfield 298, 3) := by decide +kernel
theorem d_M_behindUnit_64 : decode Y_M_behindUnit.2.1 64 = .ok (.aload_n 0, 1) := by decide +kernel
theorem d_M_behindUnit_65 : decode Y_M_behindUnit.2.1 65 = .ok (.getfield 64, 3) := by decide +kernel
theorem d_M_behindUnit_68 : decode Y_M_behindUnit.2.1 68 = .ok (.aload_n 0, 1) := by decide +kernel
theorem d_M_behindUnit_69 : decode Y_M_behindUnit.2.1 69 = .ok (.getfield 298, 3) := by decide +kernel
theorem d_M_behindUnit_72 : decode Y_M_behindUnit.2.1 72 = .ok (.iaload, 1) := by decide +kernel
theorem d_M_behindUnit_73 : decode Y_M_behindUnit.2.1 73 = .ok (.iconst 3, 1) := by decide +kernel
theorem d_M_behindUnit_74 : decode Y_M_behindUnit.2.1 74 = .ok (.if_icmp .ne 13, 3) := by decide +kernel
theorem d_M_behindUnit_77 : decode Y_M_behindUnit.2.1 77 = .ok (.aload_n 0, 1) := by decide +kernel
theorem d_M_behindUnit_78 : decode Y_M_behindUnit.2.1 78 = .ok (.dup, 1) := by decide +kernel
theorem d_M_behindUnit_79 : decode Y_M_behindUnit.2.1 79 = .ok (.getfield 301, 3) := by decide +kernel
theorem d_M_behindUnit_82 : decode Y_M_behindUnit.2.1 82 = .ok (.iconst 1, 1) := by decide +kernel
theorem d_M_behindUnit_83 : decode Y_M_behindUnit.2.1 83 = .ok (.isub, 1) := by decide +kernel
theorem d_M_behindUnit_84 : decode Y_M_behindUnit.2.1 84 = .ok (.putfield 301, 3) := by decide +kernel
theorem d_M_behindUnit_87 : decode Y_M_behindUnit.2.1 87 = .ok (.aload_n 0, 1) := by decide +kernel
theorem d_M_behindUnit_88 : decode Y_M_behindUnit.2.1 88 = .ok (.aload_n 0, 1) := by decide +kernel
theorem d_M_behindUnit_89 : decode Y_M_behindUnit.2.1 89 = .ok (.getfield 67, 3) := by decide +kernel
theorem d_M_behindUnit_92 : decode Y_M_behindUnit.2.1 92 = .ok (.aload_n 0, 1) := by decide +kernel
theorem d_M_behindUnit_93 : decode Y_M_behindUnit.2.1 93 = .ok (.getfield 298, 3) := by decide +kernel
theorem d_M_behindUnit_96 : decode Y_M_behindUnit.2.1 96 = .ok (.iaload, 1) := by decide +kernel
theorem d_M_behindUnit_97 : decode Y_M_behindUnit.2.1 97 = .ok (.iconst 0, 1) := by decide +kernel
theorem d_M_behindUnit_98 : decode Y_M_behindUnit.2.1 98 = .ok (.invokevirtual 316, 3) := by decide +kernel
theorem d_M_behindUnit_101 : decode Y_M_behindUnit.2.1 101 = .ok (.goto (-78), 3) := by decide +kernel
theorem d_M_behindUnit_104 : decode Y_M_behindUnit.2.1 104 = .ok (.iload_n 1, 1) := by decide +kernel
theorem d_M_behindUnit_105 : decode Y_M_behindUnit.2.1 105 = .ok (.ifCond .le 42, 3) := by decide +kernel
theorem d_M_behindUnit_108 : decode Y_M_behindUnit.2.1 108 = .ok (.aload_n 0, 1) := by decide +kernel
theorem d_M_behindUnit_109 : decode Y_M_behindUnit.2.1 109 = .ok (.iload_n 1, 1) := by decide +kernel
theorem d_M_behindUnit_110 : decode Y_M_behindUnit.2.1 110 = .ok (.iload_n 1, 1) := by decide +kernel
theorem d_M_behindUnit_111 : decode Y_M_behindUnit.2.1 111 = .ok (.iconst 2, 1) := by decide +kernel
theorem d_M_behindUnit_112 : decode Y_M_behindUnit.2.1 112 = .ok (.if_icmp .ne 8, 3) := by decide +kernel
theorem d_M_behindUnit_115 : decode Y_M_behindUnit.2.1 115 = .ok (.bipush 38, 2) := by decide +kernel
theorem d_M_behindUnit_117 : decode Y_M_behindUnit.2.1 117 = .ok (.goto 21, 3) := by decide +kernel
theorem d_M_behindUnit_120 : decode Y_M_behindUnit.2.1 120 = .ok (.iload_n 1, 1) := by decide +kernel
theorem d_M_behindUnit_121 : decode Y_M_behindUnit.2.1 121 = .ok (.iconst 1, 1) := by decide +kernel
theorem d_M_behindUnit_122 : decode Y_M_behindUnit.2.1 122 = .ok (.if_icmp .ne 8, 3) := by decide +kernel
theorem d_M_behindUnit_125 : decode Y_M_behindUnit.2.1 125 = .ok (.bipush 124, 2) := by decide +kernel
theorem d_M_behindUnit_127 : decode Y_M_behindUnit.2.1 127 = .ok (.goto 11, 3) := by decide +kernel
theorem d_M_behindUnit_130 : decode Y_M_behindUnit.2.1 130 = .ok (.aload_n 0, 1) := by decide +kernel
theorem d_M_behindUnit_131 : decode Y_M_behindUnit.2.1 131 = .ok (.aload_n 0, 1) := by decide +kernel
theorem d_M_behindUnit_132 : decode Y_M_behindUnit.2.1 132 = .ok (.getfield 182, 3) := by decide +kernel
theorem d_M_behindUnit_135 : decode Y_M_behindUnit.2.1 135 = .ok (.invokevirtual 185, 3) := by decide +kernel
theorem d_M_behindUnit_138 : decode Y_M_behindUnit.2.1 138 = .ok (.invokevirtual 304, 3) := by decide +kernel
theorem d_M_behindUnit_141 : decode Y_M_behindUnit.2.1 141 = .ok (.aload_n 0, 1) := by decide +kernel
theorem d_M_behindUnit_142 : decode Y_M_behindUnit.2.1 142 = .ok (.invokevirtual 221, 3) := by decide +kernel
theorem d_M_behindUnit_145 : decode Y_M_behindUnit.2.1 145 = .ok (.iconst 1, 1) := by decide +kernel
theorem d_M_behindUnit_146 : decode Y_M_behindUnit.2.1 146 = .ok (.ireturn, 1) := by decide +kernel
theorem d_M_behindUnit_147 : decode Y_M_behindUnit.2.1 147 = .ok (.aload_n 0, 1) := by decide +kernel
theorem d_M_behindUnit_148 : decode Y_M_behindUnit.2.1 148 = .ok (.dup, 1) := by decide +kernel
theorem d_M_behindUnit_149 : decode Y_M_behindUnit.2.1 149 = .ok (.getfield 298, 3) := by decide +kernel
theorem d_M_behindUnit_152 : decode Y_M_behindUnit.2.1 152 = .ok (.iconst 1, 1) := by decide +kernel
theorem d_M_behindUnit_153 : decode Y_M_behindUnit.2.1 153 = .ok (.isub, 1) := by decide +kernel
theorem d_M_behindUnit_154 : decode Y_M_behindUnit.2.1 154 = .ok (.putfield 298, 3) := by decide +kernel
theorem d_M_behindUnit_157 : decode Y_M_behindUnit.2.1 157 = .ok (.aload_n 0, 1) := by decide +kernel
theorem d_M_behindUnit_158 : decode Y_M_behindUnit.2.1 158 = .ok (.getfield 64, 3) := by decide +kernel
theorem d_M_behindUnit_161 : decode Y_M_behindUnit.2.1 161 = .ok (.aload_n 0, 1) := by decide +kernel
theorem d_M_behindUnit_162 : decode Y_M_behindUnit.2.1 162 = .ok (.getfield 298, 3) := by decide +kernel
theorem d_M_behindUnit_165 : decode Y_M_behindUnit.2.1 165 = .ok (.iaload, 1) := by decide +kernel
theorem d_M_behindUnit_166 : decode Y_M_behindUnit.2.1 166 = .ok (.bipush 7, 2) := by decide +kernel
theorem d_M_behindUnit_168 : decode Y_M_behindUnit.2.1 168 = .ok (.if_icmp .ne 23, 3) := by decide +kernel
theorem d_M_behindUnit_171 : decode Y_M_behindUnit.2.1 171 = .ok (.aload_n 0, 1) := by decide +kernel
theorem d_M_behindUnit_172 : decode Y_M_behindUnit.2.1 172 = .ok (.dup, 1) := by decide +kernel
theorem d_M_behindUnit_173 : decode Y_M_behindUnit.2.1 173 = .ok (.getfield 301, 3) := by decide +kernel
theorem d_M_behindUnit_176 : decode Y_M_behindUnit.2.1 176 = .ok (.iconst 1, 1) := by decide +kernel
theorem d_M_behindUnit_177 : decode Y_M_behindUnit.2.1 177 = .ok (.isub, 1) := by decide +kernel
theorem d_M_behindUnit_178 : decode Y_M_behindUnit.2.1 178 = .ok (.putfield 301, 3) := by decide +kernel
theorem d_M_behindUnit_181 : decode Y_M_behindUnit.2.1 181 = .ok (.aload_n 0, 1) := by decide +kernel
theorem d_M_behindUnit_182 : decode Y_M_behindUnit.2.1 182 = .ok (.aload_n 0, 1) := by decide +kernel
theorem d_M_behindUnit_183 : decode Y_M_behindUnit.2.1 183 = .ok (.bipush 41, 2) := by decide +kernel
theorem d_M_behindUnit_185 : decode Y_M_behindUnit.2.1 185 = .ok (.invokevirtual 274, 3) := by decide +kernel
theorem d_M_behindUnit_188 : decode Y_M_behindUnit.2.1 188 = .ok (.invokevirtual 277, 3) := by decide +kernel
theorem d_M_behindUnit_191 : decode Y_M_behindUnit.2.1 191 = .ok (.iconst 0, 1) := by decide +kernel
theorem d_M_behindUnit_192 : decode Y_M_behindUnit.2.1 192 = .ok (.ireturn, 1) := by decide +kernel
theorem e_M_behindUnit {l : Launch} {G : GT} {d : Nat} {P : Int → MM → Prop} {m : MM}   (H : wfM m → ∃ (e1 : Nat) (P2 : Int → MM → Prop), e1 < d ∧ CI l G Y_M_rankHere e1 [.inr (.inr 70)] m P2 ∧ (∀ z7 m8, P2 z7 m8 → inR z7 → wfM m8 → ((z7 ≠ 4 → (Wq l G false Y_M_behindUnit d (QI P) 23 [(0, .inr (.inr 70)), (1, .inl z7)] [] m8)) ∧ (¬ (z7 ≠ 4) → (∃ (e17 : Nat) (P18 : Int → MM → Prop), e17 < d ∧ CI l G Y_M_isCompared e17 [.inr (.inr 70)] m8 P18 ∧ (∀ z23 m24, P18 z23 m24 → inR z23 → wfM m24 → ((z23 = 0 → (Wq l G false Y_M_behindUnit d (QI P) 23 [(0, .inr (.inr 70)), (1, .inl z7)] [] m24)) ∧ (¬ (z23 = 0) → (∃ (e33 : Nat) (P34 : MM → Prop), e33 < d ∧ CV l G Y_M_misplaced e33 [.inr (.inr 70)] m24 P34 ∧ (∀ m40, P34 m40 → wfM m40 → (P 1 m40))))))))))) : CI l G Y_M_behindUnit d [.inr (.inr 70)] m P := by
  refine CI.of [(0, .inr (.inr 70))] k_M_behindUnit.1 (Nat.le_of_ble_eq_true rfl) rfl (Wp.wf (fun hw _ hl hs => ?_))
  have H0 := H hw
  refine Wp.aload_n 0 0 d_M_behindUnit_0 rfl rfl ?_
  obtain ⟨e1, P2, hd3, ho4, H5⟩ := H0
  refine Wq.VI (st := []) [] d_M_behindUnit_1 k_M_rankHere ml_M_319 rfl rfl rfl (fun h => by cases h) (Nat.le_of_ble_eq_true rfl) hd3 ho4 (fun z7 m8 hp9 hz10 hw11 => ?_)
  have H6 := H5 z7 m8 hp9 hz10 hw11
  refine Wp.istore_n 1 [(0, .inr (.inr 70)), (1, .inl z7)] d_M_behindUnit_4 rfl (by decide) rfl ?_
  refine Wp.iload_n 1 1 d_M_behindUnit_5 rfl rfl ?_
  refine Wp.iconst d_M_behindUnit_6 (by decide) ?_
  obtain ⟨H13, H14⟩ := H6
  refine Wp.icmp_ne 23 d_M_behindUnit_7 (by decide) (fun c12 => ?_) (fun c12 => ?_)
  · have H15 := H13 c12
    exact H15
  · have H16 := H14 c12
    refine Wp.aload_n 0 0 d_M_behindUnit_10 rfl rfl ?_
    obtain ⟨e17, P18, hd19, ho20, H21⟩ := H16
    refine Wq.VI (st := []) [] d_M_behindUnit_11 k_M_isCompared ml_M_322 rfl rfl rfl (fun h => by cases h) (Nat.le_of_ble_eq_true rfl) hd19 ho20 (fun z23 m24 hp25 hz26 hw27 => ?_)
    have H22 := H21 z23 m24 hp25 hz26 hw27
    obtain ⟨H29, H30⟩ := H22
    refine Wp.if_eq 23 d_M_behindUnit_14 (by decide) (fun c28 => ?_) (fun c28 => ?_)
    · have H31 := H29 c28
      exact H31
    · have H32 := H30 c28
      refine Wp.aload_n 0 0 d_M_behindUnit_17 rfl rfl ?_
      obtain ⟨e33, P34, hd35, ho36, H37⟩ := H32
      refine Wq.VV (st := []) [] d_M_behindUnit_18 k_M_misplaced ml_M_224 rfl rfl rfl (fun h => by cases h) (Nat.le_of_ble_eq_true rfl) hd35 ho36 (fun m40 hp41 hw43 => ?_)
      have H38 := H37 m40 hp41 hw43
      refine Wp.iconst d_M_behindUnit_21 (by decide) ?_
      exact Wq.zret d_M_behindUnit_22 rfl (by decide) H38
theorem s_M_behindUnit_23 {l : Launch} {G : GT} {d : Nat} {P : Int → MM → Prop} {m : MM} (x1 : Int)  (H : wfM m → inR x1 → (inR ((m 70 32) - 1)) ∧ ((0 ≤ ((m 70 32) - 1) ∧ ((m 70 32) - 1) < (90 : Int)) ∧ (((m 87 ((m 70 32) - 1)) > 6 → (Wq l G false Y_M_behindUnit d (QI P) 104 [(0, .inr (.inr 70)), (1, .inl x1)] [] m)) ∧ (¬ ((m 87 ((m 70 32) - 1)) > 6) → ((inR ((m 70 32) - 1)) ∧ ((0 ≤ ((m 70 32) - 1) ∧ ((m 70 32) - 1) < (90 : Int)) ∧ (((m 87 ((m 70 32) - 1)) < x1 → (Wq l G false Y_M_behindUnit d (QI P) 104 [(0, .inr (.inr 70)), (1, .inl x1)] [] m)) ∧ (¬ ((m 87 ((m 70 32) - 1)) < x1) → ((inR ((m 70 32) - 1)) ∧ (∀ m21, m21 = up m 70 32 ((m 70 32) - 1) → ((0 ≤ (m21 70 32) ∧ (m21 70 32) < (90 : Int)) ∧ (((m21 87 (m21 70 32)) ≠ 3 → ((0 ≤ (m21 70 32) ∧ (m21 70 32) < (90 : Int)) ∧ (∃ (e33 : Nat) (P34 : MM → Prop), e33 < d ∧ CV l G Y_M_emit e33 [.inr (.inr 70), .inl (m21 88 (m21 70 32)), .inl 0] m21 P34 ∧ (∀ m40, P34 m40 → wfM m40 → (Wq l G false Y_M_behindUnit d (QI P) 23 [(0, .inr (.inr 70)), (1, .inl x1)] [] m40))))) ∧ (¬ ((m21 87 (m21 70 32)) ≠ 3) → ((inR ((m21 70 31) - 1)) ∧ (∀ m46, m46 = up m21 70 31 ((m21 70 31) - 1) → ((0 ≤ (m46 70 32) ∧ (m46 70 32) < (90 : Int)) ∧ (∃ (e51 : Nat) (P52 : MM → Prop), e51 < d ∧ CV l G Y_M_emit e51 [.inr (.inr 70), .inl (m46 88 (m46 70 32)), .inl 0] m46 P52 ∧ (∀ m58, P52 m58 → wfM m58 → (Wq l G false Y_M_behindUnit d (QI P) 23 [(0, .inr (.inr 70)), (1, .inl x1)] [] m58))))))))))))))))))) : Wq l G false Y_M_behindUnit d (QI P) 23 [(0, .inr (.inr 70)), (1, .inl x1)] [] m := by
  refine Wp.wf (fun hw _ hl hs => ?_)
  have H0 := H hw (hl _ (List.mem_of_getElem? (i := 1) rfl))
  refine Wp.aload_n 0 0 d_M_behindUnit_23 rfl rfl ?_
  refine Wp.getP 87 d_M_behindUnit_24 fl_M_64 rfl rfl rfl ?_
  refine Wp.aload_n 0 0 d_M_behindUnit_27 rfl rfl ?_
  refine Wq.getI 32 rfl d_M_behindUnit_28 fl_M_298 rfl (Or.inl rfl) ?_
  refine Wp.iconst d_M_behindUnit_31 (by decide) ?_
  obtain ⟨s1, H2⟩ := H0
  refine Wp.isub d_M_behindUnit_32 s1 ?_
  obtain ⟨s3, H4⟩ := H2
  refine Wp.iald d_M_behindUnit_33 rfl (Or.inl rfl) s3.1 s3.2 ?_
  refine Wp.bipush d_M_behindUnit_34 (by decide) (by decide) ?_
  obtain ⟨H6, H7⟩ := H4
  refine Wp.icmp_gt 104 d_M_behindUnit_36 (by decide) (fun c5 => ?_) (fun c5 => ?_)
  · have H8 := H6 c5
    exact H8
  · have H9 := H7 c5
    refine Wp.aload_n 0 0 d_M_behindUnit_39 rfl rfl ?_
    refine Wp.getP 87 d_M_behindUnit_40 fl_M_64 rfl rfl rfl ?_
    refine Wp.aload_n 0 0 d_M_behindUnit_43 rfl rfl ?_
    refine Wq.getI 32 rfl d_M_behindUnit_44 fl_M_298 rfl (Or.inl rfl) ?_
    refine Wp.iconst d_M_behindUnit_47 (by decide) ?_
    obtain ⟨s10, H11⟩ := H9
    refine Wp.isub d_M_behindUnit_48 s10 ?_
    obtain ⟨s12, H13⟩ := H11
    refine Wp.iald d_M_behindUnit_49 rfl (Or.inl rfl) s12.1 s12.2 ?_
    refine Wp.iload_n 1 1 d_M_behindUnit_50 rfl rfl ?_
    obtain ⟨H15, H16⟩ := H13
    refine Wp.icmp_lt 104 d_M_behindUnit_51 (by decide) (fun c14 => ?_) (fun c14 => ?_)
    · have H17 := H15 c14
      exact H17
    · have H18 := H16 c14
      refine Wp.aload_n 0 0 d_M_behindUnit_54 rfl rfl ?_
      refine Wp.dup d_M_behindUnit_55 rfl ?_
      refine Wq.getI 32 rfl d_M_behindUnit_56 fl_M_298 rfl (Or.inl rfl) ?_
      refine Wp.iconst d_M_behindUnit_59 (by decide) ?_
      obtain ⟨s19, H20⟩ := H18
      refine Wp.isub d_M_behindUnit_60 s19 ?_
      refine Wq.putI 32 rfl d_M_behindUnit_61 fl_M_298 (fun _ _ _ h => by cases h; rfl) rfl rfl rfl (fun m21 hm22 => ?_)
      have H23 := H20 m21 hm22
      refine Wp.aload_n 0 0 d_M_behindUnit_64 rfl rfl ?_
      refine Wp.getP 87 d_M_behindUnit_65 fl_M_64 rfl rfl rfl ?_
      refine Wp.aload_n 0 0 d_M_behindUnit_68 rfl rfl ?_
      refine Wq.getI 32 rfl d_M_behindUnit_69 fl_M_298 rfl (Or.inl rfl) ?_
      obtain ⟨s24, H25⟩ := H23
      refine Wp.iald d_M_behindUnit_72 rfl (Or.inl rfl) s24.1 s24.2 ?_
      refine Wp.iconst d_M_behindUnit_73 (by decide) ?_
      obtain ⟨H27, H28⟩ := H25
      refine Wp.icmp_ne 87 d_M_behindUnit_74 (by decide) (fun c26 => ?_) (fun c26 => ?_)
      · have H29 := H27 c26
        refine Wp.aload_n 0 0 d_M_behindUnit_87 rfl rfl ?_
        refine Wp.aload_n 0 0 d_M_behindUnit_88 rfl rfl ?_
        refine Wp.getP 88 d_M_behindUnit_89 fl_M_67 rfl rfl rfl ?_
        refine Wp.aload_n 0 0 d_M_behindUnit_92 rfl rfl ?_
        refine Wq.getI 32 rfl d_M_behindUnit_93 fl_M_298 rfl (Or.inl rfl) ?_
        obtain ⟨s31, H32⟩ := H29
        refine Wp.iald d_M_behindUnit_96 rfl (Or.inl rfl) s31.1 s31.2 ?_
        refine Wp.iconst d_M_behindUnit_97 (by decide) ?_
        obtain ⟨e33, P34, hd35, ho36, H37⟩ := H32
        refine Wq.VV (st := []) [.inl (m21 88 (m21 70 32)), .inl 0] d_M_behindUnit_98 k_M_emit ml_M_316 rfl rfl rfl (fun h => by cases h) (Nat.le_of_ble_eq_true rfl) hd35 ho36 (fun m40 hp41 hw43 => ?_)
        have H38 := H37 m40 hp41 hw43
        refine Wp.goto 23 d_M_behindUnit_101 (by decide) ?_
        exact H38
      · have H30 := H28 c26
        refine Wp.aload_n 0 0 d_M_behindUnit_77 rfl rfl ?_
        refine Wp.dup d_M_behindUnit_78 rfl ?_
        refine Wq.getI 31 rfl d_M_behindUnit_79 fl_M_301 rfl (Or.inl rfl) ?_
        refine Wp.iconst d_M_behindUnit_82 (by decide) ?_
        obtain ⟨s44, H45⟩ := H30
        refine Wp.isub d_M_behindUnit_83 s44 ?_
        refine Wq.putI 31 rfl d_M_behindUnit_84 fl_M_301 (fun _ _ _ h => by cases h; rfl) rfl rfl rfl (fun m46 hm47 => ?_)
        have H48 := H45 m46 hm47
        refine Wp.aload_n 0 0 d_M_behindUnit_87 rfl rfl ?_
        refine Wp.aload_n 0 0 d_M_behindUnit_88 rfl rfl ?_
        refine Wp.getP 88 d_M_behindUnit_89 fl_M_67 rfl rfl rfl ?_
        refine Wp.aload_n 0 0 d_M_behindUnit_92 rfl rfl ?_
        refine Wq.getI 32 rfl d_M_behindUnit_93 fl_M_298 rfl (Or.inl rfl) ?_
        obtain ⟨s49, H50⟩ := H48
        refine Wp.iald d_M_behindUnit_96 rfl (Or.inl rfl) s49.1 s49.2 ?_
        refine Wp.iconst d_M_behindUnit_97 (by decide) ?_
        obtain ⟨e51, P52, hd53, ho54, H55⟩ := H50
        refine Wq.VV (st := []) [.inl (m46 88 (m46 70 32)), .inl 0] d_M_behindUnit_98 k_M_emit ml_M_316 rfl rfl rfl (fun h => by cases h) (Nat.le_of_ble_eq_true rfl) hd53 ho54 (fun m58 hp59 hw61 => ?_)
        have H56 := H55 m58 hp59 hw61
        refine Wp.goto 23 d_M_behindUnit_101 (by decide) ?_
        exact H56
theorem s_M_behindUnit_104 {l : Launch} {G : GT} {d : Nat} {P : Int → MM → Prop} {m : MM} (x1 : Int)  (H : wfM m → inR x1 → (x1 ≤ 0 → ((inR ((m 70 32) - 1)) ∧ (∀ m8, m8 = up m 70 32 ((m 70 32) - 1) → ((0 ≤ (m8 70 32) ∧ (m8 70 32) < (90 : Int)) ∧ (((m8 87 (m8 70 32)) ≠ 7 → (P 0 m8)) ∧ (¬ ((m8 87 (m8 70 32)) ≠ 7) → ((inR ((m8 70 31) - 1)) ∧ (∀ m20, m20 = up m8 70 31 ((m8 70 31) - 1) → (∃ (e23 : Nat) (P24 : Int → MM → Prop), e23 < d ∧ CI l G Y_M_isSignHere e23 [.inr (.inr 70), .inl 41] m20 P24 ∧ (∀ z29 m30, P24 z29 m30 → inR z29 → wfM m30 → (∃ (e34 : Nat) (P35 : MM → Prop), e34 < d ∧ CV l G Y_M_must e34 [.inr (.inr 70), .inl z29] m30 P35 ∧ (∀ m41, P35 m41 → wfM m41 → (P 0 m41))))))))))))) ∧ (¬ (x1 ≤ 0) → ((x1 ≠ 2 → ((x1 ≠ 1 → (∃ (e55 : Nat) (P56 : Int → MM → Prop), e55 < d ∧ CI l G Y_M_sign e55 [.inr (.inr 70), .inl (m 70 6)] m P56 ∧ (∀ z61 m62, P56 z61 m62 → inR z61 → wfM m62 → (∃ (e66 : Nat) (P67 : MM → Prop), e66 < d ∧ CV l G Y_M_pushE e66 [.inr (.inr 70), .inl x1, .inl z61] m62 P67 ∧ (∀ m73, P67 m73 → wfM m73 → (∃ (e77 : Nat) (P78 : MM → Prop), e77 < d ∧ CV l G Y_M_goOn e77 [.inr (.inr 70)] m73 P78 ∧ (∀ m84, P78 m84 → wfM m84 → (P 1 m84)))))))) ∧ (¬ (x1 ≠ 1) → (∃ (e88 : Nat) (P89 : MM → Prop), e88 < d ∧ CV l G Y_M_pushE e88 [.inr (.inr 70), .inl x1, .inl 124] m P89 ∧ (∀ m95, P89 m95 → wfM m95 → (∃ (e99 : Nat) (P100 : MM → Prop), e99 < d ∧ CV l G Y_M_goOn e99 [.inr (.inr 70)] m95 P100 ∧ (∀ m106, P100 m106 → wfM m106 → (P 1 m106)))))))) ∧ (¬ (x1 ≠ 2) → (∃ (e110 : Nat) (P111 : MM → Prop), e110 < d ∧ CV l G Y_M_pushE e110 [.inr (.inr 70), .inl x1, .inl 38] m P111 ∧ (∀ m117, P111 m117 → wfM m117 → (∃ (e121 : Nat) (P122 : MM → Prop), e121 < d ∧ CV l G Y_M_goOn e121 [.inr (.inr 70)] m117 P122 ∧ (∀ m128, P122 m128 → wfM m128 → (P 1 m128))))))))) : Wq l G false Y_M_behindUnit d (QI P) 104 [(0, .inr (.inr 70)), (1, .inl x1)] [] m := by
  refine Wp.wf (fun hw _ hl hs => ?_)
  have H0 := H hw (hl _ (List.mem_of_getElem? (i := 1) rfl))
  refine Wp.iload_n 1 1 d_M_behindUnit_104 rfl rfl ?_
  obtain ⟨H2, H3⟩ := H0
  refine Wp.if_le 147 d_M_behindUnit_105 (by decide) (fun c1 => ?_) (fun c1 => ?_)
  · have H4 := H2 c1
    refine Wp.aload_n 0 0 d_M_behindUnit_147 rfl rfl ?_
    refine Wp.dup d_M_behindUnit_148 rfl ?_
    refine Wq.getI 32 rfl d_M_behindUnit_149 fl_M_298 rfl (Or.inl rfl) ?_
    refine Wp.iconst d_M_behindUnit_152 (by decide) ?_
    obtain ⟨s6, H7⟩ := H4
    refine Wp.isub d_M_behindUnit_153 s6 ?_
    refine Wq.putI 32 rfl d_M_behindUnit_154 fl_M_298 (fun _ _ _ h => by cases h; rfl) rfl rfl rfl (fun m8 hm9 => ?_)
    have H10 := H7 m8 hm9
    refine Wp.aload_n 0 0 d_M_behindUnit_157 rfl rfl ?_
    refine Wp.getP 87 d_M_behindUnit_158 fl_M_64 rfl rfl rfl ?_
    refine Wp.aload_n 0 0 d_M_behindUnit_161 rfl rfl ?_
    refine Wq.getI 32 rfl d_M_behindUnit_162 fl_M_298 rfl (Or.inl rfl) ?_
    obtain ⟨s11, H12⟩ := H10
    refine Wp.iald d_M_behindUnit_165 rfl (Or.inl rfl) s11.1 s11.2 ?_
    refine Wp.bipush d_M_behindUnit_166 (by decide) (by decide) ?_
    obtain ⟨H14, H15⟩ := H12
    refine Wp.icmp_ne 191 d_M_behindUnit_168 (by decide) (fun c13 => ?_) (fun c13 => ?_)
    · have H16 := H14 c13
      refine Wp.iconst d_M_behindUnit_191 (by decide) ?_
      exact Wq.zret d_M_behindUnit_192 rfl (by decide) H16
    · have H17 := H15 c13
      refine Wp.aload_n 0 0 d_M_behindUnit_171 rfl rfl ?_
      refine Wp.dup d_M_behindUnit_172 rfl ?_
      refine Wq.getI 31 rfl d_M_behindUnit_173 fl_M_301 rfl (Or.inl rfl) ?_
      refine Wp.iconst d_M_behindUnit_176 (by decide) ?_
      obtain ⟨s18, H19⟩ := H17
      refine Wp.isub d_M_behindUnit_177 s18 ?_
      refine Wq.putI 31 rfl d_M_behindUnit_178 fl_M_301 (fun _ _ _ h => by cases h; rfl) rfl rfl rfl (fun m20 hm21 => ?_)
      have H22 := H19 m20 hm21
      refine Wp.aload_n 0 0 d_M_behindUnit_181 rfl rfl ?_
      refine Wp.aload_n 0 0 d_M_behindUnit_182 rfl rfl ?_
      refine Wp.bipush d_M_behindUnit_183 (by decide) (by decide) ?_
      obtain ⟨e23, P24, hd25, ho26, H27⟩ := H22
      refine Wq.VI (st := [.inr (.inr 70)]) [.inl 41] d_M_behindUnit_185 k_M_isSignHere ml_M_274 rfl rfl rfl (fun h => by cases h) (Nat.le_of_ble_eq_true rfl) hd25 ho26 (fun z29 m30 hp31 hz32 hw33 => ?_)
      have H28 := H27 z29 m30 hp31 hz32 hw33
      obtain ⟨e34, P35, hd36, ho37, H38⟩ := H28
      refine Wq.VV (st := []) [.inl z29] d_M_behindUnit_188 k_M_must ml_M_277 rfl rfl rfl (fun h => by cases h) (Nat.le_of_ble_eq_true rfl) hd36 ho37 (fun m41 hp42 hw44 => ?_)
      have H39 := H38 m41 hp42 hw44
      refine Wp.iconst d_M_behindUnit_191 (by decide) ?_
      exact Wq.zret d_M_behindUnit_192 rfl (by decide) H39
  · have H5 := H3 c1
    refine Wp.aload_n 0 0 d_M_behindUnit_108 rfl rfl ?_
    refine Wp.iload_n 1 1 d_M_behindUnit_109 rfl rfl ?_
    refine Wp.iload_n 1 1 d_M_behindUnit_110 rfl rfl ?_
    refine Wp.iconst d_M_behindUnit_111 (by decide) ?_
    obtain ⟨H46, H47⟩ := H5
    refine Wp.icmp_ne 120 d_M_behindUnit_112 (by decide) (fun c45 => ?_) (fun c45 => ?_)
    · have H48 := H46 c45
      refine Wp.iload_n 1 1 d_M_behindUnit_120 rfl rfl ?_
      refine Wp.iconst d_M_behindUnit_121 (by decide) ?_
      obtain ⟨H51, H52⟩ := H48
      refine Wp.icmp_ne 130 d_M_behindUnit_122 (by decide) (fun c50 => ?_) (fun c50 => ?_)
      · have H53 := H51 c50
        refine Wp.aload_n 0 0 d_M_behindUnit_130 rfl rfl ?_
        refine Wp.aload_n 0 0 d_M_behindUnit_131 rfl rfl ?_
        refine Wq.getI 6 rfl d_M_behindUnit_132 fl_M_182 rfl (Or.inl rfl) ?_
        obtain ⟨e55, P56, hd57, ho58, H59⟩ := H53
        refine Wq.VI (st := [.inl x1, .inr (.inr 70)]) [.inl (m 70 6)] d_M_behindUnit_135 k_M_sign ml_M_185 rfl rfl rfl (fun h => by cases h) (Nat.le_of_ble_eq_true rfl) hd57 ho58 (fun z61 m62 hp63 hz64 hw65 => ?_)
        have H60 := H59 z61 m62 hp63 hz64 hw65
        obtain ⟨e66, P67, hd68, ho69, H70⟩ := H60
        refine Wq.VV (st := []) [.inl x1, .inl z61] d_M_behindUnit_138 k_M_pushE ml_M_304 rfl rfl rfl (fun h => by cases h) (Nat.le_of_ble_eq_true rfl) hd68 ho69 (fun m73 hp74 hw76 => ?_)
        have H71 := H70 m73 hp74 hw76
        refine Wp.aload_n 0 0 d_M_behindUnit_141 rfl rfl ?_
        obtain ⟨e77, P78, hd79, ho80, H81⟩ := H71
        refine Wq.VV (st := []) [] d_M_behindUnit_142 k_M_goOn ml_M_221 rfl rfl rfl (fun h => by cases h) (Nat.le_of_ble_eq_true rfl) hd79 ho80 (fun m84 hp85 hw87 => ?_)
        have H82 := H81 m84 hp85 hw87
        refine Wp.iconst d_M_behindUnit_145 (by decide) ?_
        exact Wq.zret d_M_behindUnit_146 rfl (by decide) H82
      · have H54 := H52 c50
        refine Wp.bipush d_M_behindUnit_125 (by decide) (by decide) ?_
        refine Wp.goto 138 d_M_behindUnit_127 (by decide) ?_
        obtain ⟨e88, P89, hd90, ho91, H92⟩ := H54
        refine Wq.VV (st := []) [.inl x1, .inl 124] d_M_behindUnit_138 k_M_pushE ml_M_304 rfl rfl rfl (fun h => by cases h) (Nat.le_of_ble_eq_true rfl) hd90 ho91 (fun m95 hp96 hw98 => ?_)
        have H93 := H92 m95 hp96 hw98
        refine Wp.aload_n 0 0 d_M_behindUnit_141 rfl rfl ?_
        obtain ⟨e99, P100, hd101, ho102, H103⟩ := H93
        refine Wq.VV (st := []) [] d_M_behindUnit_142 k_M_goOn ml_M_221 rfl rfl rfl (fun h => by cases h) (Nat.le_of_ble_eq_true rfl) hd101 ho102 (fun m106 hp107 hw109 => ?_)
        have H104 := H103 m106 hp107 hw109
        refine Wp.iconst d_M_behindUnit_145 (by decide) ?_
        exact Wq.zret d_M_behindUnit_146 rfl (by decide) H104
    · have H49 := H47 c45
      refine Wp.bipush d_M_behindUnit_115 (by decide) (by decide) ?_
      refine Wp.goto 138 d_M_behindUnit_117 (by decide) ?_
      obtain ⟨e110, P111, hd112, ho113, H114⟩ := H49
      refine Wq.VV (st := []) [.inl x1, .inl 38] d_M_behindUnit_138 k_M_pushE ml_M_304 rfl rfl rfl (fun h => by cases h) (Nat.le_of_ble_eq_true rfl) hd112 ho113 (fun m117 hp118 hw120 => ?_)
      have H115 := H114 m117 hp118 hw120
      refine Wp.aload_n 0 0 d_M_behindUnit_141 rfl rfl ?_
      obtain ⟨e121, P122, hd123, ho124, H125⟩ := H115
      refine Wq.VV (st := []) [] d_M_behindUnit_142 k_M_goOn ml_M_221 rfl rfl rfl (fun h => by cases h) (Nat.le_of_ble_eq_true rfl) hd123 ho124 (fun m128 hp129 hw131 => ?_)
      have H126 := H125 m128 hp129 hw131
      refine Wp.iconst d_M_behindUnit_145 (by decide) ?_
      exact Wq.zret d_M_behindUnit_146 rfl (by decide) H126
theorem d_M_rankHere_0 : decode Y_M_rankHere.2.1 0 = .ok (.aload_n 0, 1) := by decide +kernel
theorem d_M_rankHere_1 : decode Y_M_rankHere.2.1 1 = .ok (.ldc2_w 175, 3) := by decide +kernel
theorem d_M_rankHere_4 : decode Y_M_rankHere.2.1 4 = .ok (.invokevirtual 227, 3) := by decide +kernel
theorem d_M_rankHere_7 : decode Y_M_rankHere.2.1 7 = .ok (.ifCond .eq 5, 3) := by decide +kernel
theorem d_M_rankHere_10 : decode Y_M_rankHere.2.1 10 = .ok (.iconst 2, 1) := by decide +kernel
theorem d_M_rankHere_11 : decode Y_M_rankHere.2.1 11 = .ok (.ireturn, 1) := by decide +kernel
theorem d_M_rankHere_12 : decode Y_M_rankHere.2.1 12 = .ok (.aload_n 0, 1) := by decide +kernel
theorem d_M_rankHere_13 : decode Y_M_rankHere.2.1 13 = .ok (.ldc2_w 173, 3) := by decide +kernel
theorem d_M_rankHere_16 : decode Y_M_rankHere.2.1 16 = .ok (.invokevirtual 227, 3) := by decide +kernel
theorem d_M_rankHere_19 : decode Y_M_rankHere.2.1 19 = .ok (.ifCond .eq 5, 3) := by decide +kernel
theorem d_M_rankHere_22 : decode Y_M_rankHere.2.1 22 = .ok (.iconst 1, 1) := by decide +kernel
theorem d_M_rankHere_23 : decode Y_M_rankHere.2.1 23 = .ok (.ireturn, 1) := by decide +kernel
theorem d_M_rankHere_24 : decode Y_M_rankHere.2.1 24 = .ok (.aload_n 0, 1) := by decide +kernel
theorem d_M_rankHere_25 : decode Y_M_rankHere.2.1 25 = .ok (.bipush 60, 2) := by decide +kernel
theorem d_M_rankHere_27 : decode Y_M_rankHere.2.1 27 = .ok (.invokevirtual 274, 3) := by decide +kernel
theorem d_M_rankHere_30 : decode Y_M_rankHere.2.1 30 = .ok (.ifCond .ne 21, 3) := by decide +kernel
theorem d_M_rankHere_33 : decode Y_M_rankHere.2.1 33 = .ok (.aload_n 0, 1) := by decide +kernel
theorem d_M_rankHere_34 : decode Y_M_rankHere.2.1 34 = .ok (.bipush 62, 2) := by decide +kernel
theorem d_M_rankHere_36 : decode Y_M_rankHere.2.1 36 = .ok (.invokevirtual 274, 3) := by decide +kernel
theorem d_M_rankHere_39 : decode Y_M_rankHere.2.1 39 = .ok (.ifCond .ne 12, 3) := by decide +kernel
theorem d_M_rankHere_42 : decode Y_M_rankHere.2.1 42 = .ok (.aload_n 0, 1) := by decide +kernel
theorem d_M_rankHere_43 : decode Y_M_rankHere.2.1 43 = .ok (.bipush 61, 2) := by decide +kernel
theorem d_M_rankHere_45 : decode Y_M_rankHere.2.1 45 = .ok (.invokevirtual 274, 3) := by decide +kernel
theorem d_M_rankHere_48 : decode Y_M_rankHere.2.1 48 = .ok (.ifCond .eq 5, 3) := by decide +kernel
theorem d_M_rankHere_51 : decode Y_M_rankHere.2.1 51 = .ok (.iconst 4, 1) := by decide +kernel
theorem d_M_rankHere_52 : decode Y_M_rankHere.2.1 52 = .ok (.ireturn, 1) := by decide +kernel
theorem d_M_rankHere_53 : decode Y_M_rankHere.2.1 53 = .ok (.aload_n 0, 1) := by decide +kernel
theorem d_M_rankHere_54 : decode Y_M_rankHere.2.1 54 = .ok (.bipush 43, 2) := by decide +kernel
theorem d_M_rankHere_56 : decode Y_M_rankHere.2.1 56 = .ok (.invokevirtual 274, 3) := by decide +kernel
theorem d_M_rankHere_59 : decode Y_M_rankHere.2.1 59 = .ok (.ifCond .ne 12, 3) := by decide +kernel
theorem d_M_rankHere_62 : decode Y_M_rankHere.2.1 62 = .ok (.aload_n 0, 1) := by decide +kernel
theorem d_M_rankHere_63 : decode Y_M_rankHere.2.1 63 = .ok (.bipush 45, 2) := by decide +kernel
theorem d_M_rankHere_65 : decode Y_M_rankHere.2.1 65 = .ok (.invokevirtual 274, 3) := by decide +kernel
theorem d_M_rankHere_68 : decode Y_M_rankHere.2.1 68 = .ok (.ifCond .eq 5, 3) := by decide +kernel
theorem d_M_rankHere_71 : decode Y_M_rankHere.2.1 71 = .ok (.iconst 5, 1) := by decide +kernel
theorem d_M_rankHere_72 : decode Y_M_rankHere.2.1 72 = .ok (.ireturn, 1) := by decide +kernel
theorem d_M_rankHere_73 : decode Y_M_rankHere.2.1 73 = .ok (.aload_n 0, 1) := by decide +kernel
theorem d_M_rankHere_74 : decode Y_M_rankHere.2.1 74 = .ok (.bipush 42, 2) := by decide +kernel
theorem d_M_rankHere_76 : decode Y_M_rankHere.2.1 76 = .ok (.invokevirtual 274, 3) := by decide +kernel
theorem d_M_rankHere_79 : decode Y_M_rankHere.2.1 79 = .ok (.ifCond .ne 21, 3) := by decide +kernel
theorem d_M_rankHere_82 : decode Y_M_rankHere.2.1 82 = .ok (.aload_n 0, 1) := by decide +kernel
theorem d_M_rankHere_83 : decode Y_M_rankHere.2.1 83 = .ok (.bipush 47, 2) := by decide +kernel
theorem d_M_rankHere_85 : decode Y_M_rankHere.2.1 85 = .ok (.invokevirtual 274, 3) := by decide +kernel
theorem d_M_rankHere_88 : decode Y_M_rankHere.2.1 88 = .ok (.ifCond .ne 12, 3) := by decide +kernel
theorem d_M_rankHere_91 : decode Y_M_rankHere.2.1 91 = .ok (.aload_n 0, 1) := by decide +kernel
theorem d_M_rankHere_92 : decode Y_M_rankHere.2.1 92 = .ok (.bipush 37, 2) := by decide +kernel
theorem d_M_rankHere_94 : decode Y_M_rankHere.2.1 94 = .ok (.invokevirtual 274, 3) := by decide +kernel
theorem d_M_rankHere_97 : decode Y_M_rankHere.2.1 97 = .ok (.ifCond .eq 8, 3) := by decide +kernel
theorem d_M_rankHere_100 : decode Y_M_rankHere.2.1 100 = .ok (.bipush 6, 2) := by decide +kernel
theorem d_M_rankHere_102 : decode Y_M_rankHere.2.1 102 = .ok (.goto 4, 3) := by decide +kernel
theorem d_M_rankHere_105 : decode Y_M_rankHere.2.1 105 = .ok (.iconst 0, 1) := by decide +kernel
theorem d_M_rankHere_106 : decode Y_M_rankHere.2.1 106 = .ok (.ireturn, 1) := by decide +kernel
theorem e_M_rankHere {l : Launch} {G : GT} {d : Nat} {P : Int → MM → Prop} {m : MM}   (H : wfM m → ∃ (e1 : Nat) (P2 : Int → MM → Prop), e1 < d ∧ CI l G Y_M_isWord e1 [.inr (.inr 70), .inr (.inl 6385252)] m P2 ∧ (∀ z7 m8, P2 z7 m8 → inR z7 → wfM m8 → ((z7 = 0 → (∃ (e17 : Nat) (P18 : Int → MM → Prop), e17 < d ∧ CI l G Y_M_isWord e17 [.inr (.inr 70), .inr (.inl 28530)] m8 P18 ∧ (∀ z23 m24, P18 z23 m24 → inR z23 → wfM m24 → ((z23 = 0 → (∃ (e33 : Nat) (P34 : Int → MM → Prop), e33 < d ∧ CI l G Y_M_isSignHere e33 [.inr (.inr 70), .inl 60] m24 P34 ∧ (∀ z39 m40, P34 z39 m40 → inR z39 → wfM m40 → ((z39 ≠ 0 → (P 4 m40)) ∧ (¬ (z39 ≠ 0) → (∃ (e49 : Nat) (P50 : Int → MM → Prop), e49 < d ∧ CI l G Y_M_isSignHere e49 [.inr (.inr 70), .inl 62] m40 P50 ∧ (∀ z55 m56, P50 z55 m56 → inR z55 → wfM m56 → ((z55 ≠ 0 → (P 4 m56)) ∧ (¬ (z55 ≠ 0) → (∃ (e65 : Nat) (P66 : Int → MM → Prop), e65 < d ∧ CI l G Y_M_isSignHere e65 [.inr (.inr 70), .inl 61] m56 P66 ∧ (∀ z71 m72, P66 z71 m72 → inR z71 → wfM m72 → ((z71 = 0 → (∃ (e81 : Nat) (P82 : Int → MM → Prop), e81 < d ∧ CI l G Y_M_isSignHere e81 [.inr (.inr 70), .inl 43] m72 P82 ∧ (∀ z87 m88, P82 z87 m88 → inR z87 → wfM m88 → ((z87 ≠ 0 → (P 5 m88)) ∧ (¬ (z87 ≠ 0) → (∃ (e97 : Nat) (P98 : Int → MM → Prop), e97 < d ∧ CI l G Y_M_isSignHere e97 [.inr (.inr 70), .inl 45] m88 P98 ∧ (∀ z103 m104, P98 z103 m104 → inR z103 → wfM m104 → ((z103 = 0 → (∃ (e113 : Nat) (P114 : Int → MM → Prop), e113 < d ∧ CI l G Y_M_isSignHere e113 [.inr (.inr 70), .inl 42] m104 P114 ∧ (∀ z119 m120, P114 z119 m120 → inR z119 → wfM m120 → ((z119 ≠ 0 → (P 6 m120)) ∧ (¬ (z119 ≠ 0) → (∃ (e129 : Nat) (P130 : Int → MM → Prop), e129 < d ∧ CI l G Y_M_isSignHere e129 [.inr (.inr 70), .inl 47] m120 P130 ∧ (∀ z135 m136, P130 z135 m136 → inR z135 → wfM m136 → ((z135 ≠ 0 → (P 6 m136)) ∧ (¬ (z135 ≠ 0) → (∃ (e145 : Nat) (P146 : Int → MM → Prop), e145 < d ∧ CI l G Y_M_isSignHere e145 [.inr (.inr 70), .inl 37] m136 P146 ∧ (∀ z151 m152, P146 z151 m152 → inR z151 → wfM m152 → ((z151 = 0 → (P 0 m152)) ∧ (¬ (z151 = 0) → (P 6 m152)))))))))))))) ∧ (¬ (z103 = 0) → (P 5 m104)))))))))) ∧ (¬ (z71 = 0) → (P 4 m72)))))))))))))) ∧ (¬ (z23 = 0) → (P 1 m24)))))) ∧ (¬ (z7 = 0) → (P 2 m8))))) : CI l G Y_M_rankHere d [.inr (.inr 70)] m P := by
  refine CI.of [(0, .inr (.inr 70))] k_M_rankHere.1 (Nat.le_of_ble_eq_true rfl) rfl (Wp.wf (fun hw _ hl hs => ?_))
  have H0 := H hw
  refine Wp.aload_n 0 0 d_M_rankHere_0 rfl rfl ?_
  refine Wp.ldc2 (z := 6385252) d_M_rankHere_1 kl_M_175 (by decide) (by decide) ?_
  obtain ⟨e1, P2, hd3, ho4, H5⟩ := H0
  refine Wq.VI (st := []) [.inr (.inl 6385252)] d_M_rankHere_4 k_M_isWord ml_M_227 rfl rfl rfl (fun h => by cases h) (Nat.le_of_ble_eq_true rfl) hd3 ho4 (fun z7 m8 hp9 hz10 hw11 => ?_)
  have H6 := H5 z7 m8 hp9 hz10 hw11
  obtain ⟨H13, H14⟩ := H6
  refine Wp.if_eq 12 d_M_rankHere_7 (by decide) (fun c12 => ?_) (fun c12 => ?_)
  · have H15 := H13 c12
    refine Wp.aload_n 0 0 d_M_rankHere_12 rfl rfl ?_
    refine Wp.ldc2 (z := 28530) d_M_rankHere_13 kl_M_173 (by decide) (by decide) ?_
    obtain ⟨e17, P18, hd19, ho20, H21⟩ := H15
    refine Wq.VI (st := []) [.inr (.inl 28530)] d_M_rankHere_16 k_M_isWord ml_M_227 rfl rfl rfl (fun h => by cases h) (Nat.le_of_ble_eq_true rfl) hd19 ho20 (fun z23 m24 hp25 hz26 hw27 => ?_)
    have H22 := H21 z23 m24 hp25 hz26 hw27
    obtain ⟨H29, H30⟩ := H22
    refine Wp.if_eq 24 d_M_rankHere_19 (by decide) (fun c28 => ?_) (fun c28 => ?_)
    · have H31 := H29 c28
      refine Wp.aload_n 0 0 d_M_rankHere_24 rfl rfl ?_
      refine Wp.bipush d_M_rankHere_25 (by decide) (by decide) ?_
      obtain ⟨e33, P34, hd35, ho36, H37⟩ := H31
      refine Wq.VI (st := []) [.inl 60] d_M_rankHere_27 k_M_isSignHere ml_M_274 rfl rfl rfl (fun h => by cases h) (Nat.le_of_ble_eq_true rfl) hd35 ho36 (fun z39 m40 hp41 hz42 hw43 => ?_)
      have H38 := H37 z39 m40 hp41 hz42 hw43
      obtain ⟨H45, H46⟩ := H38
      refine Wp.if_ne 51 d_M_rankHere_30 (by decide) (fun c44 => ?_) (fun c44 => ?_)
      · have H47 := H45 c44
        refine Wp.iconst d_M_rankHere_51 (by decide) ?_
        exact Wq.iret d_M_rankHere_52 rfl H47
      · have H48 := H46 c44
        refine Wp.aload_n 0 0 d_M_rankHere_33 rfl rfl ?_
        refine Wp.bipush d_M_rankHere_34 (by decide) (by decide) ?_
        obtain ⟨e49, P50, hd51, ho52, H53⟩ := H48
        refine Wq.VI (st := []) [.inl 62] d_M_rankHere_36 k_M_isSignHere ml_M_274 rfl rfl rfl (fun h => by cases h) (Nat.le_of_ble_eq_true rfl) hd51 ho52 (fun z55 m56 hp57 hz58 hw59 => ?_)
        have H54 := H53 z55 m56 hp57 hz58 hw59
        obtain ⟨H61, H62⟩ := H54
        refine Wp.if_ne 51 d_M_rankHere_39 (by decide) (fun c60 => ?_) (fun c60 => ?_)
        · have H63 := H61 c60
          refine Wp.iconst d_M_rankHere_51 (by decide) ?_
          exact Wq.iret d_M_rankHere_52 rfl H63
        · have H64 := H62 c60
          refine Wp.aload_n 0 0 d_M_rankHere_42 rfl rfl ?_
          refine Wp.bipush d_M_rankHere_43 (by decide) (by decide) ?_
          obtain ⟨e65, P66, hd67, ho68, H69⟩ := H64
          refine Wq.VI (st := []) [.inl 61] d_M_rankHere_45 k_M_isSignHere ml_M_274 rfl rfl rfl (fun h => by cases h) (Nat.le_of_ble_eq_true rfl) hd67 ho68 (fun z71 m72 hp73 hz74 hw75 => ?_)
          have H70 := H69 z71 m72 hp73 hz74 hw75
          obtain ⟨H77, H78⟩ := H70
          refine Wp.if_eq 53 d_M_rankHere_48 (by decide) (fun c76 => ?_) (fun c76 => ?_)
          · have H79 := H77 c76
            refine Wp.aload_n 0 0 d_M_rankHere_53 rfl rfl ?_
            refine Wp.bipush d_M_rankHere_54 (by decide) (by decide) ?_
            obtain ⟨e81, P82, hd83, ho84, H85⟩ := H79
            refine Wq.VI (st := []) [.inl 43] d_M_rankHere_56 k_M_isSignHere ml_M_274 rfl rfl rfl (fun h => by cases h) (Nat.le_of_ble_eq_true rfl) hd83 ho84 (fun z87 m88 hp89 hz90 hw91 => ?_)
            have H86 := H85 z87 m88 hp89 hz90 hw91
            obtain ⟨H93, H94⟩ := H86
            refine Wp.if_ne 71 d_M_rankHere_59 (by decide) (fun c92 => ?_) (fun c92 => ?_)
            · have H95 := H93 c92
              refine Wp.iconst d_M_rankHere_71 (by decide) ?_
              exact Wq.iret d_M_rankHere_72 rfl H95
            · have H96 := H94 c92
              refine Wp.aload_n 0 0 d_M_rankHere_62 rfl rfl ?_
              refine Wp.bipush d_M_rankHere_63 (by decide) (by decide) ?_
              obtain ⟨e97, P98, hd99, ho100, H101⟩ := H96
              refine Wq.VI (st := []) [.inl 45] d_M_rankHere_65 k_M_isSignHere ml_M_274 rfl rfl rfl (fun h => by cases h) (Nat.le_of_ble_eq_true rfl) hd99 ho100 (fun z103 m104 hp105 hz106 hw107 => ?_)
              have H102 := H101 z103 m104 hp105 hz106 hw107
              obtain ⟨H109, H110⟩ := H102
              refine Wp.if_eq 73 d_M_rankHere_68 (by decide) (fun c108 => ?_) (fun c108 => ?_)
              · have H111 := H109 c108
                refine Wp.aload_n 0 0 d_M_rankHere_73 rfl rfl ?_
                refine Wp.bipush d_M_rankHere_74 (by decide) (by decide) ?_
                obtain ⟨e113, P114, hd115, ho116, H117⟩ := H111
                refine Wq.VI (st := []) [.inl 42] d_M_rankHere_76 k_M_isSignHere ml_M_274 rfl rfl rfl (fun h => by cases h) (Nat.le_of_ble_eq_true rfl) hd115 ho116 (fun z119 m120 hp121 hz122 hw123 => ?_)
                have H118 := H117 z119 m120 hp121 hz122 hw123
                obtain ⟨H125, H126⟩ := H118
                refine Wp.if_ne 100 d_M_rankHere_79 (by decide) (fun c124 => ?_) (fun c124 => ?_)
                · have H127 := H125 c124
                  refine Wp.bipush d_M_rankHere_100 (by decide) (by decide) ?_
                  refine Wp.goto 106 d_M_rankHere_102 (by decide) ?_
                  exact Wq.iret d_M_rankHere_106 rfl H127
                · have H128 := H126 c124
                  refine Wp.aload_n 0 0 d_M_rankHere_82 rfl rfl ?_
                  refine Wp.bipush d_M_rankHere_83 (by decide) (by decide) ?_
                  obtain ⟨e129, P130, hd131, ho132, H133⟩ := H128
                  refine Wq.VI (st := []) [.inl 47] d_M_rankHere_85 k_M_isSignHere ml_M_274 rfl rfl rfl (fun h => by cases h) (Nat.le_of_ble_eq_true rfl) hd131 ho132 (fun z135 m136 hp137 hz138 hw139 => ?_)
                  have H134 := H133 z135 m136 hp137 hz138 hw139
                  obtain ⟨H141, H142⟩ := H134
                  refine Wp.if_ne 100 d_M_rankHere_88 (by decide) (fun c140 => ?_) (fun c140 => ?_)
                  · have H143 := H141 c140
                    refine Wp.bipush d_M_rankHere_100 (by decide) (by decide) ?_
                    refine Wp.goto 106 d_M_rankHere_102 (by decide) ?_
                    exact Wq.iret d_M_rankHere_106 rfl H143
                  · have H144 := H142 c140
                    refine Wp.aload_n 0 0 d_M_rankHere_91 rfl rfl ?_
                    refine Wp.bipush d_M_rankHere_92 (by decide) (by decide) ?_
                    obtain ⟨e145, P146, hd147, ho148, H149⟩ := H144
                    refine Wq.VI (st := []) [.inl 37] d_M_rankHere_94 k_M_isSignHere ml_M_274 rfl rfl rfl (fun h => by cases h) (Nat.le_of_ble_eq_true rfl) hd147 ho148 (fun z151 m152 hp153 hz154 hw155 => ?_)
                    have H150 := H149 z151 m152 hp153 hz154 hw155
                    obtain ⟨H157, H158⟩ := H150
                    refine Wp.if_eq 105 d_M_rankHere_97 (by decide) (fun c156 => ?_) (fun c156 => ?_)
                    · have H159 := H157 c156
                      refine Wp.iconst d_M_rankHere_105 (by decide) ?_
                      exact Wq.iret d_M_rankHere_106 rfl H159
                    · have H160 := H158 c156
                      refine Wp.bipush d_M_rankHere_100 (by decide) (by decide) ?_
                      refine Wp.goto 106 d_M_rankHere_102 (by decide) ?_
                      exact Wq.iret d_M_rankHere_106 rfl H160
              · have H112 := H110 c108
                refine Wp.iconst d_M_rankHere_71 (by decide) ?_
                exact Wq.iret d_M_rankHere_72 rfl H112
          · have H80 := H78 c76
            refine Wp.iconst d_M_rankHere_51 (by decide) ?_
            exact Wq.iret d_M_rankHere_52 rfl H80
    · have H32 := H30 c28
      refine Wp.iconst d_M_rankHere_22 (by decide) ?_
      exact Wq.iret d_M_rankHere_23 rfl H32
  · have H16 := H14 c12
    refine Wp.iconst d_M_rankHere_10 (by decide) ?_
    exact Wq.iret d_M_rankHere_11 rfl H16
theorem d_M_isCompared_0 : decode Y_M_isCompared.2.1 0 = .ok (.aload_n 0, 1) := by decide +kernel
theorem d_M_isCompared_1 : decode Y_M_isCompared.2.1 1 = .ok (.getfield 298, 3) := by decide +kernel
theorem d_M_isCompared_4 : decode Y_M_isCompared.2.1 4 = .ok (.iconst 1, 1) := by decide +kernel
theorem d_M_isCompared_5 : decode Y_M_isCompared.2.1 5 = .ok (.isub, 1) := by decide +kernel
theorem d_M_isCompared_6 : decode Y_M_isCompared.2.1 6 = .ok (.istore_n 1, 1) := by decide +kernel
theorem d_M_isCompared_7 : decode Y_M_isCompared.2.1 7 = .ok (.aload_n 0, 1) := by decide +kernel
theorem d_M_isCompared_8 : decode Y_M_isCompared.2.1 8 = .ok (.getfield 64, 3) := by decide +kernel
theorem d_M_isCompared_11 : decode Y_M_isCompared.2.1 11 = .ok (.iload_n 1, 1) := by decide +kernel
theorem d_M_isCompared_12 : decode Y_M_isCompared.2.1 12 = .ok (.iaload, 1) := by decide +kernel
theorem d_M_isCompared_13 : decode Y_M_isCompared.2.1 13 = .ok (.iconst 5, 1) := by decide +kernel
theorem d_M_isCompared_14 : decode Y_M_isCompared.2.1 14 = .ok (.if_icmp .eq 14, 3) := by decide +kernel
theorem d_M_isCompared_17 : decode Y_M_isCompared.2.1 17 = .ok (.aload_n 0, 1) := by decide +kernel
theorem d_M_isCompared_18 : decode Y_M_isCompared.2.1 18 = .ok (.getfield 64, 3) := by decide +kernel
theorem d_M_isCompared_21 : decode Y_M_isCompared.2.1 21 = .ok (.iload_n 1, 1) := by decide +kernel
theorem d_M_isCompared_22 : decode Y_M_isCompared.2.1 22 = .ok (.iaload, 1) := by decide +kernel
theorem d_M_isCompared_23 : decode Y_M_isCompared.2.1 23 = .ok (.bipush 6, 2) := by decide +kernel
theorem d_M_isCompared_25 : decode Y_M_isCompared.2.1 25 = .ok (.if_icmp .ne 9, 3) := by decide +kernel
theorem d_M_isCompared_28 : decode Y_M_isCompared.2.1 28 = .ok (.iinc 1 (-1), 3) := by decide +kernel
theorem d_M_isCompared_31 : decode Y_M_isCompared.2.1 31 = .ok (.goto (-24), 3) := by decide +kernel
theorem d_M_isCompared_34 : decode Y_M_isCompared.2.1 34 = .ok (.aload_n 0, 1) := by decide +kernel
theorem d_M_isCompared_35 : decode Y_M_isCompared.2.1 35 = .ok (.getfield 64, 3) := by decide +kernel
theorem d_M_isCompared_38 : decode Y_M_isCompared.2.1 38 = .ok (.iload_n 1, 1) := by decide +kernel
theorem d_M_isCompared_39 : decode Y_M_isCompared.2.1 39 = .ok (.iaload, 1) := by decide +kernel
theorem d_M_isCompared_40 : decode Y_M_isCompared.2.1 40 = .ok (.iconst 4, 1) := by decide +kernel
theorem d_M_isCompared_41 : decode Y_M_isCompared.2.1 41 = .ok (.if_icmp .ne 7, 3) := by decide +kernel
theorem d_M_isCompared_44 : decode Y_M_isCompared.2.1 44 = .ok (.iconst 1, 1) := by decide +kernel
theorem d_M_isCompared_45 : decode Y_M_isCompared.2.1 45 = .ok (.goto 4, 3) := by decide +kernel
theorem d_M_isCompared_48 : decode Y_M_isCompared.2.1 48 = .ok (.iconst 0, 1) := by decide +kernel
theorem d_M_isCompared_49 : decode Y_M_isCompared.2.1 49 = .ok (.ireturn, 1) := by decide +kernel
theorem e_M_isCompared {l : Launch} {G : GT} {d : Nat} {P : Int → MM → Prop} {m : MM}   (H : wfM m → (inR ((m 70 32) - 1)) ∧ (Wq l G false Y_M_isCompared d (QI P) 7 [(0, .inr (.inr 70)), (1, .inl ((m 70 32) - 1))] [] m)) : CI l G Y_M_isCompared d [.inr (.inr 70)] m P := by
  refine CI.of [(0, .inr (.inr 70))] k_M_isCompared.1 (Nat.le_of_ble_eq_true rfl) rfl (Wp.wf (fun hw _ hl hs => ?_))
  have H0 := H hw
  refine Wp.aload_n 0 0 d_M_isCompared_0 rfl rfl ?_
  refine Wq.getI 32 rfl d_M_isCompared_1 fl_M_298 rfl (Or.inl rfl) ?_
  refine Wp.iconst d_M_isCompared_4 (by decide) ?_
  obtain ⟨s1, H2⟩ := H0
  refine Wp.isub d_M_isCompared_5 s1 ?_
  refine Wp.istore_n 1 [(0, .inr (.inr 70)), (1, .inl ((m 70 32) - 1))] d_M_isCompared_6 rfl (by decide) rfl ?_
  exact H2
theorem s_M_isCompared_7 {l : Launch} {G : GT} {d : Nat} {P : Int → MM → Prop} {m : MM} (x1 : Int)  (H : wfM m → inR x1 → (0 ≤ x1 ∧ x1 < (90 : Int)) ∧ (((m 87 x1) = 5 → ((inR (x1 + (-1))) ∧ (Wq l G false Y_M_isCompared d (QI P) 7 [(0, .inr (.inr 70)), (1, .inl (x1 + (-1)))] [] m))) ∧ (¬ ((m 87 x1) = 5) → ((0 ≤ x1 ∧ x1 < (90 : Int)) ∧ (((m 87 x1) ≠ 6 → ((0 ≤ x1 ∧ x1 < (90 : Int)) ∧ (((m 87 x1) ≠ 4 → (P 0 m)) ∧ (¬ ((m 87 x1) ≠ 4) → (P 1 m))))) ∧ (¬ ((m 87 x1) ≠ 6) → ((inR (x1 + (-1))) ∧ (Wq l G false Y_M_isCompared d (QI P) 7 [(0, .inr (.inr 70)), (1, .inl (x1 + (-1)))] [] m)))))))) : Wq l G false Y_M_isCompared d (QI P) 7 [(0, .inr (.inr 70)), (1, .inl x1)] [] m := by
  refine Wp.wf (fun hw _ hl hs => ?_)
  have H0 := H hw (hl _ (List.mem_of_getElem? (i := 1) rfl))
  refine Wp.aload_n 0 0 d_M_isCompared_7 rfl rfl ?_
  refine Wp.getP 87 d_M_isCompared_8 fl_M_64 rfl rfl rfl ?_
  refine Wp.iload_n 1 1 d_M_isCompared_11 rfl rfl ?_
  obtain ⟨s1, H2⟩ := H0
  refine Wp.iald d_M_isCompared_12 rfl (Or.inl rfl) s1.1 s1.2 ?_
  refine Wp.iconst d_M_isCompared_13 (by decide) ?_
  obtain ⟨H4, H5⟩ := H2
  refine Wp.icmp_eq 28 d_M_isCompared_14 (by decide) (fun c3 => ?_) (fun c3 => ?_)
  · have H6 := H4 c3
    obtain ⟨s8, H9⟩ := H6
    refine Wp.iinc 1 1 [(0, .inr (.inr 70)), (1, .inl (x1 + (-1)))] d_M_isCompared_28 rfl s8 (by decide) rfl ?_
    refine Wp.goto 7 d_M_isCompared_31 (by decide) ?_
    exact H9
  · have H7 := H5 c3
    refine Wp.aload_n 0 0 d_M_isCompared_17 rfl rfl ?_
    refine Wp.getP 87 d_M_isCompared_18 fl_M_64 rfl rfl rfl ?_
    refine Wp.iload_n 1 1 d_M_isCompared_21 rfl rfl ?_
    obtain ⟨s10, H11⟩ := H7
    refine Wp.iald d_M_isCompared_22 rfl (Or.inl rfl) s10.1 s10.2 ?_
    refine Wp.bipush d_M_isCompared_23 (by decide) (by decide) ?_
    obtain ⟨H13, H14⟩ := H11
    refine Wp.icmp_ne 34 d_M_isCompared_25 (by decide) (fun c12 => ?_) (fun c12 => ?_)
    · have H15 := H13 c12
      refine Wp.aload_n 0 0 d_M_isCompared_34 rfl rfl ?_
      refine Wp.getP 87 d_M_isCompared_35 fl_M_64 rfl rfl rfl ?_
      refine Wp.iload_n 1 1 d_M_isCompared_38 rfl rfl ?_
      obtain ⟨s17, H18⟩ := H15
      refine Wp.iald d_M_isCompared_39 rfl (Or.inl rfl) s17.1 s17.2 ?_
      refine Wp.iconst d_M_isCompared_40 (by decide) ?_
      obtain ⟨H20, H21⟩ := H18
      refine Wp.icmp_ne 48 d_M_isCompared_41 (by decide) (fun c19 => ?_) (fun c19 => ?_)
      · have H22 := H20 c19
        refine Wp.iconst d_M_isCompared_48 (by decide) ?_
        exact Wq.zret d_M_isCompared_49 rfl (by decide) H22
      · have H23 := H21 c19
        refine Wp.iconst d_M_isCompared_44 (by decide) ?_
        refine Wp.goto 49 d_M_isCompared_45 (by decide) ?_
        exact Wq.zret d_M_isCompared_49 rfl (by decide) H23
    · have H16 := H14 c12
      obtain ⟨s24, H25⟩ := H16
      refine Wp.iinc 1 1 [(0, .inr (.inr 70)), (1, .inl (x1 + (-1)))] d_M_isCompared_28 rfl s24 (by decide) rfl ?_
      refine Wp.goto 7 d_M_isCompared_31 (by decide) ?_
      exact H25
theorem d_M_once_0 : decode Y_M_once.2.1 0 = .ok (.aload_n 0, 1) := by decide +kernel
theorem d_M_once_1 : decode Y_M_once.2.1 1 = .ok (.getfield 36, 3) := by decide +kernel
theorem d_M_once_4 : decode Y_M_once.2.1 4 = .ok (.aload_n 0, 1) := by decide +kernel
theorem d_M_once_5 : decode Y_M_once.2.1 5 = .ok (.getfield 234, 3) := by decide +kernel
theorem d_M_once_8 : decode Y_M_once.2.1 8 = .ok (.dup2, 1) := by decide +kernel
theorem d_M_once_9 : decode Y_M_once.2.1 9 = .ok (.iaload, 1) := by decide +kernel
theorem d_M_once_10 : decode Y_M_once.2.1 10 = .ok (.iconst 1, 1) := by decide +kernel
theorem d_M_once_11 : decode Y_M_once.2.1 11 = .ok (.iload_n 1, 1) := by decide +kernel
theorem d_M_once_12 : decode Y_M_once.2.1 12 = .ok (.ishl, 1) := by decide +kernel
theorem d_M_once_13 : decode Y_M_once.2.1 13 = .ok (.ior, 1) := by decide +kernel
theorem d_M_once_14 : decode Y_M_once.2.1 14 = .ok (.iastore, 1) := by decide +kernel
theorem d_M_once_15 : decode Y_M_once.2.1 15 = .ok (.aload_n 0, 1) := by decide +kernel
theorem d_M_once_16 : decode Y_M_once.2.1 16 = .ok (.iconst 0, 1) := by decide +kernel
theorem d_M_once_17 : decode Y_M_once.2.1 17 = .ok (.iload_n 2, 1) := by decide +kernel
theorem d_M_once_18 : decode Y_M_once.2.1 18 = .ok (.invokevirtual 230, 3) := by decide +kernel
theorem d_M_once_21 : decode Y_M_once.2.1 21 = .ok (.ireturn, 1) := by decide +kernel
theorem e_M_once {l : Launch} {G : GT} {d : Nat} {P : Int → MM → Prop} {m : MM} (x1 : Int) (x2 : Int)  (H : wfM m → inR x1 → inR x2 → (0 ≤ (m 70 29) ∧ (m 70 29) < (2 : Int)) ∧ ((0 ≤ (m 70 29) ∧ (m 70 29) < (2 : Int)) ∧ (∀ m3, m3 = up m 78 (m 70 29) (bOr (m 78 (m 70 29)) (bShl 1 x1)) → (∃ (e8 : Nat) (P9 : Int → MM → Prop), e8 < d ∧ CI l G Y_M_numeral e8 [.inr (.inr 70), .inl 0, .inl x2] m3 P9 ∧ (∀ z14 m15, P9 z14 m15 → inR z14 → wfM m15 → (P z14 m15)))))) : CI l G Y_M_once d [.inr (.inr 70), .inl x1, .inl x2] m P := by
  refine CI.of [(0, .inr (.inr 70)), (1, .inl x1), (2, .inl x2)] k_M_once.1 (Nat.le_of_ble_eq_true rfl) rfl (Wp.wf (fun hw _ hl hs => ?_))
  have H0 := H hw (hl _ (List.mem_of_getElem? (i := 1) rfl)) (hl _ (List.mem_of_getElem? (i := 2) rfl))
  refine Wp.aload_n 0 0 d_M_once_0 rfl rfl ?_
  refine Wp.getP 78 d_M_once_1 fl_M_36 rfl rfl rfl ?_
  refine Wp.aload_n 0 0 d_M_once_4 rfl rfl ?_
  refine Wq.getI 29 rfl d_M_once_5 fl_M_234 rfl (Or.inl rfl) ?_
  refine Wp.dup2 d_M_once_8 rfl rfl ?_
  obtain ⟨s1, H2⟩ := H0
  refine Wp.iald d_M_once_9 rfl (Or.inl rfl) s1.1 s1.2 ?_
  refine Wp.iconst d_M_once_10 (by decide) ?_
  refine Wp.iload_n 1 1 d_M_once_11 rfl rfl ?_
  refine Wp.ishl d_M_once_12 ?_
  refine Wp.ior d_M_once_13 ?_
  obtain ⟨s19, H20⟩ := H2
  refine Wq.iast d_M_once_14 rfl s19.1 s19.2 (fun m3 hm4 => ?_)
  have H5 := H20 m3 hm4
  refine Wp.aload_n 0 0 d_M_once_15 rfl rfl ?_
  refine Wp.iconst d_M_once_16 (by decide) ?_
  refine Wp.iload_n 2 2 d_M_once_17 rfl rfl ?_
  obtain ⟨e8, P9, hd10, ho11, H12⟩ := H5
  refine Wq.VI (st := []) [.inl 0, .inl x2] d_M_once_18 k_M_numeral ml_M_230 rfl rfl rfl (fun h => by cases h) (Nat.le_of_ble_eq_true rfl) hd10 ho11 (fun z14 m15 hp16 hz17 hw18 => ?_)
  have H13 := H12 z14 m15 hp16 hz17 hw18
  exact Wq.iret d_M_once_21 rfl H13
theorem d_M_areDrained_0 : decode Y_M_areDrained.2.1 0 = .ok (.iconst 0, 1) := by decide +kernel
theorem d_M_areDrained_1 : decode Y_M_areDrained.2.1 1 = .ok (.istore_n 1, 1) := by decide +kernel
theorem d_M_areDrained_2 : decode Y_M_areDrained.2.1 2 = .ok (.iconst 0, 1) := by decide +kernel
theorem d_M_areDrained_3 : decode Y_M_areDrained.2.1 3 = .ok (.istore_n 2, 1) := by decide +kernel
theorem d_M_areDrained_4 : decode Y_M_areDrained.2.1 4 = .ok (.iload_n 2, 1) := by decide +kernel
theorem d_M_areDrained_5 : decode Y_M_areDrained.2.1 5 = .ok (.iconst 5, 1) := by decide +kernel
theorem d_M_areDrained_6 : decode Y_M_areDrained.2.1 6 = .ok (.if_icmp .ge 111, 3) := by decide +kernel
theorem d_M_areDrained_9 : decode Y_M_areDrained.2.1 9 = .ok (.iconst 0, 1) := by decide +kernel
theorem d_M_areDrained_10 : decode Y_M_areDrained.2.1 10 = .ok (.istore_n 3, 1) := by decide +kernel
theorem d_M_areDrained_11 : decode Y_M_areDrained.2.1 11 = .ok (.iload_n 3, 1) := by decide +kernel
theorem d_M_areDrained_12 : decode Y_M_areDrained.2.1 12 = .ok (.aload_n 0, 1) := by decide +kernel
theorem d_M_areDrained_13 : decode Y_M_areDrained.2.1 13 = .ok (.getfield 20, 3) := by decide +kernel
theorem d_M_areDrained_16 : decode Y_M_areDrained.2.1 16 = .ok (.aload_n 0, 1) := by decide +kernel
theorem d_M_areDrained_17 : decode Y_M_areDrained.2.1 17 = .ok (.getfield 234, 3) := by decide +kernel
theorem d_M_areDrained_20 : decode Y_M_areDrained.2.1 20 = .ok (.iaload, 1) := by decide +kernel
theorem d_M_areDrained_21 : decode Y_M_areDrained.2.1 21 = .ok (.if_icmp .ge 90, 3) := by decide +kernel
theorem d_M_areDrained_24 : decode Y_M_areDrained.2.1 24 = .ok (.aload_n 0, 1) := by decide +kernel
theorem d_M_areDrained_25 : decode Y_M_areDrained.2.1 25 = .ok (.getfield 45, 3) := by decide +kernel
theorem d_M_areDrained_28 : decode Y_M_areDrained.2.1 28 = .ok (.iconst 5, 1) := by decide +kernel
theorem d_M_areDrained_29 : decode Y_M_areDrained.2.1 29 = .ok (.aload_n 0, 1) := by decide +kernel
theorem d_M_areDrained_30 : decode Y_M_areDrained.2.1 30 = .ok (.getfield 234, 3) := by decide +kernel
theorem d_M_areDrained_33 : decode Y_M_areDrained.2.1 33 = .ok (.imul, 1) := by decide +kernel
theorem d_M_areDrained_34 : decode Y_M_areDrained.2.1 34 = .ok (.iload_n 3, 1) := by decide +kernel
theorem d_M_areDrained_35 : decode Y_M_areDrained.2.1 35 = .ok (.iadd, 1) := by decide +kernel
theorem d_M_areDrained_36 : decode Y_M_areDrained.2.1 36 = .ok (.iaload, 1) := by decide +kernel
theorem d_M_areDrained_37 : decode Y_M_areDrained.2.1 37 = .ok (.ifCond .le 9, 3) := by decide +kernel
theorem d_M_areDrained_40 : decode Y_M_areDrained.2.1 40 = .ok (.iload_n 1, 1) := by decide +kernel
theorem d_M_areDrained_41 : decode Y_M_areDrained.2.1 41 = .ok (.iconst 1, 1) := by decide +kernel
theorem d_M_areDrained_42 : decode Y_M_areDrained.2.1 42 = .ok (.iload_n 3, 1) := by decide +kernel
theorem d_M_areDrained_43 : decode Y_M_areDrained.2.1 43 = .ok (.ishl, 1) := by decide +kernel
theorem d_M_areDrained_44 : decode Y_M_areDrained.2.1 44 = .ok (.ior, 1) := by decide +kernel
theorem d_M_areDrained_45 : decode Y_M_areDrained.2.1 45 = .ok (.istore_n 1, 1) := by decide +kernel
theorem d_M_areDrained_46 : decode Y_M_areDrained.2.1 46 = .ok (.iconst 0, 1) := by decide +kernel
theorem d_M_areDrained_47 : decode Y_M_areDrained.2.1 47 = .ok (.istore 4, 2) := by decide +kernel
theorem d_M_areDrained_49 : decode Y_M_areDrained.2.1 49 = .ok (.iload 4, 2) := by decide +kernel
theorem d_M_areDrained_51 : decode Y_M_areDrained.2.1 51 = .ok (.aload_n 0, 1) := by decide +kernel
theorem d_M_areDrained_52 : decode Y_M_areDrained.2.1 52 = .ok (.getfield 20, 3) := by decide +kernel
theorem d_M_areDrained_55 : decode Y_M_areDrained.2.1 55 = .ok (.aload_n 0, 1) := by decide +kernel
theorem d_M_areDrained_56 : decode Y_M_areDrained.2.1 56 = .ok (.getfield 234, 3) := by decide +kernel
theorem d_M_areDrained_59 : decode Y_M_areDrained.2.1 59 = .ok (.iaload, 1) := by decide +kernel
theorem d_M_areDrained_60 : decode Y_M_areDrained.2.1 60 = .ok (.if_icmp .ge 45, 3) := by decide +kernel
theorem d_M_areDrained_63 : decode Y_M_areDrained.2.1 63 = .ok (.iload_n 1, 1) := by decide +kernel
theorem d_M_areDrained_64 : decode Y_M_areDrained.2.1 64 = .ok (.iload 4, 2) := by decide +kernel
theorem d_M_areDrained_66 : decode Y_M_areDrained.2.1 66 = .ok (.invokestatic 252, 3) := by decide +kernel
theorem d_M_areDrained_69 : decode Y_M_areDrained.2.1 69 = .ok (.ifCond .eq 30, 3) := by decide +kernel
theorem d_M_areDrained_72 : decode Y_M_areDrained.2.1 72 = .ok (.aload_n 0, 1) := by decide +kernel
theorem d_M_areDrained_73 : decode Y_M_areDrained.2.1 73 = .ok (.getfield 42, 3) := by decide +kernel
theorem d_M_areDrained_76 : decode Y_M_areDrained.2.1 76 = .ok (.iconst 5, 1) := by decide +kernel
theorem d_M_areDrained_77 : decode Y_M_areDrained.2.1 77 = .ok (.iconst 5, 1) := by decide +kernel
theorem d_M_areDrained_78 : decode Y_M_areDrained.2.1 78 = .ok (.aload_n 0, 1) := by decide +kernel
theorem d_M_areDrained_79 : decode Y_M_areDrained.2.1 79 = .ok (.getfield 234, 3) := by decide +kernel
theorem d_M_areDrained_82 : decode Y_M_areDrained.2.1 82 = .ok (.imul, 1) := by decide +kernel
theorem d_M_areDrained_83 : decode Y_M_areDrained.2.1 83 = .ok (.iload_n 3, 1) := by decide +kernel
theorem d_M_areDrained_84 : decode Y_M_areDrained.2.1 84 = .ok (.iadd, 1) := by decide +kernel
theorem d_M_areDrained_85 : decode Y_M_areDrained.2.1 85 = .ok (.imul, 1) := by decide +kernel
theorem d_M_areDrained_86 : decode Y_M_areDrained.2.1 86 = .ok (.iload 4, 2) := by decide +kernel
theorem d_M_areDrained_88 : decode Y_M_areDrained.2.1 88 = .ok (.iadd, 1) := by decide +kernel
theorem d_M_areDrained_89 : decode Y_M_areDrained.2.1 89 = .ok (.iaload, 1) := by decide +kernel
theorem d_M_areDrained_90 : decode Y_M_areDrained.2.1 90 = .ok (.ifCond .le 9, 3) := by decide +kernel
theorem d_M_areDrained_93 : decode Y_M_areDrained.2.1 93 = .ok (.iload_n 1, 1) := by decide +kernel
theorem d_M_areDrained_94 : decode Y_M_areDrained.2.1 94 = .ok (.iconst 1, 1) := by decide +kernel
theorem d_M_areDrained_95 : decode Y_M_areDrained.2.1 95 = .ok (.iload_n 3, 1) := by decide +kernel
theorem d_M_areDrained_96 : decode Y_M_areDrained.2.1 96 = .ok (.ishl, 1) := by decide +kernel
theorem d_M_areDrained_97 : decode Y_M_areDrained.2.1 97 = .ok (.ior, 1) := by decide +kernel
theorem d_M_areDrained_98 : decode Y_M_areDrained.2.1 98 = .ok (.istore_n 1, 1) := by decide +kernel
theorem d_M_areDrained_99 : decode Y_M_areDrained.2.1 99 = .ok (.iinc 4 1, 3) := by decide +kernel
theorem d_M_areDrained_102 : decode Y_M_areDrained.2.1 102 = .ok (.goto (-53), 3) := by decide +kernel
theorem d_M_areDrained_105 : decode Y_M_areDrained.2.1 105 = .ok (.iinc 3 1, 3) := by decide +kernel
theorem d_M_areDrained_108 : decode Y_M_areDrained.2.1 108 = .ok (.goto (-97), 3) := by decide +kernel
theorem d_M_areDrained_111 : decode Y_M_areDrained.2.1 111 = .ok (.iinc 2 1, 3) := by decide +kernel
theorem d_M_areDrained_114 : decode Y_M_areDrained.2.1 114 = .ok (.goto (-110), 3) := by decide +kernel
theorem d_M_areDrained_117 : decode Y_M_areDrained.2.1 117 = .ok (.iload_n 1, 1) := by decide +kernel
theorem d_M_areDrained_118 : decode Y_M_areDrained.2.1 118 = .ok (.iconst 1, 1) := by decide +kernel
theorem d_M_areDrained_119 : decode Y_M_areDrained.2.1 119 = .ok (.aload_n 0, 1) := by decide +kernel
theorem d_M_areDrained_120 : decode Y_M_areDrained.2.1 120 = .ok (.getfield 20, 3) := by decide +kernel
theorem d_M_areDrained_123 : decode Y_M_areDrained.2.1 123 = .ok (.aload_n 0, 1) := by decide +kernel
theorem d_M_areDrained_124 : decode Y_M_areDrained.2.1 124 = .ok (.getfield 234, 3) := by decide +kernel
theorem d_M_areDrained_127 : decode Y_M_areDrained.2.1 127 = .ok (.iaload, 1) := by decide +kernel
theorem d_M_areDrained_128 : decode Y_M_areDrained.2.1 128 = .ok (.ishl, 1) := by decide +kernel
theorem d_M_areDrained_129 : decode Y_M_areDrained.2.1 129 = .ok (.iconst 1, 1) := by decide +kernel
theorem d_M_areDrained_130 : decode Y_M_areDrained.2.1 130 = .ok (.isub, 1) := by decide +kernel
theorem d_M_areDrained_131 : decode Y_M_areDrained.2.1 131 = .ok (.if_icmp .ne 7, 3) := by decide +kernel
theorem d_M_areDrained_134 : decode Y_M_areDrained.2.1 134 = .ok (.iconst 1, 1) := by decide +kernel
theorem d_M_areDrained_135 : decode Y_M_areDrained.2.1 135 = .ok (.goto 4, 3) := by decide +kernel
theorem d_M_areDrained_138 : decode Y_M_areDrained.2.1 138 = .ok (.iconst 0, 1) := by decide +kernel
theorem d_M_areDrained_139 : decode Y_M_areDrained.2.1 139 = .ok (.ireturn, 1) := by decide +kernel
theorem e_M_areDrained {l : Launch} {G : GT} {d : Nat} {P : Int → MM → Prop} {m : MM}   (H : wfM m → Wq l G false Y_M_areDrained d (QI P) 4 [(0, .inr (.inr 70)), (1, .inl 0), (2, .inl 0)] [] m) : CI l G Y_M_areDrained d [.inr (.inr 70)] m P := by
  refine CI.of [(0, .inr (.inr 70))] k_M_areDrained.1 (Nat.le_of_ble_eq_true rfl) rfl (Wp.wf (fun hw _ hl hs => ?_))
  have H0 := H hw
  refine Wp.iconst d_M_areDrained_0 (by decide) ?_
  refine Wp.istore_n 1 [(0, .inr (.inr 70)), (1, .inl 0)] d_M_areDrained_1 rfl (by decide) rfl ?_
  refine Wp.iconst d_M_areDrained_2 (by decide) ?_
  refine Wp.istore_n 2 [(0, .inr (.inr 70)), (1, .inl 0), (2, .inl 0)] d_M_areDrained_3 rfl (by decide) rfl ?_
  exact H0
theorem s_M_areDrained_4 {l : Launch} {G : GT} {d : Nat} {P : Int → MM → Prop} {m : MM} (x1 : Int) (x2 : Int)  (H : wfM m → inR x1 → inR x2 → (x2 ≥ 5 → ((0 ≤ (m 70 29) ∧ (m 70 29) < (2 : Int)) ∧ ((inR ((bShl 1 (m 73 (m 70 29))) - 1)) ∧ ((x1 ≠ ((bShl 1 (m 73 (m 70 29))) - 1) → (P 0 m)) ∧ (¬ (x1 ≠ ((bShl 1 (m 73 (m 70 29))) - 1)) → (P 1 m)))))) ∧ (¬ (x2 ≥ 5) → (Wq l G false Y_M_areDrained d (QI P) 11 [(0, .inr (.inr 70)), (1, .inl x1), (2, .inl x2), (3, .inl 0)] [] m))) : Wq l G false Y_M_areDrained d (QI P) 4 [(0, .inr (.inr 70)), (1, .inl x1), (2, .inl x2)] [] m := by
  refine Wp.wf (fun hw _ hl hs => ?_)
  have H0 := H hw (hl _ (List.mem_of_getElem? (i := 1) rfl)) (hl _ (List.mem_of_getElem? (i := 2) rfl))
  refine Wp.iload_n 2 2 d_M_areDrained_4 rfl rfl ?_
  refine Wp.iconst d_M_areDrained_5 (by decide) ?_
  obtain ⟨H2, H3⟩ := H0
  refine Wp.icmp_ge 117 d_M_areDrained_6 (by decide) (fun c1 => ?_) (fun c1 => ?_)
  · have H4 := H2 c1
    refine Wp.iload_n 1 1 d_M_areDrained_117 rfl rfl ?_
    refine Wp.iconst d_M_areDrained_118 (by decide) ?_
    refine Wp.aload_n 0 0 d_M_areDrained_119 rfl rfl ?_
    refine Wp.getP 73 d_M_areDrained_120 fl_M_20 rfl rfl rfl ?_
    refine Wp.aload_n 0 0 d_M_areDrained_123 rfl rfl ?_
    refine Wq.getI 29 rfl d_M_areDrained_124 fl_M_234 rfl (Or.inl rfl) ?_
    obtain ⟨s6, H7⟩ := H4
    refine Wp.iald d_M_areDrained_127 rfl (Or.inl rfl) s6.1 s6.2 ?_
    refine Wp.ishl d_M_areDrained_128 ?_
    refine Wp.iconst d_M_areDrained_129 (by decide) ?_
    obtain ⟨s8, H9⟩ := H7
    refine Wp.isub d_M_areDrained_130 s8 ?_
    obtain ⟨H11, H12⟩ := H9
    refine Wp.icmp_ne 138 d_M_areDrained_131 (by decide) (fun c10 => ?_) (fun c10 => ?_)
    · have H13 := H11 c10
      refine Wp.iconst d_M_areDrained_138 (by decide) ?_
      exact Wq.zret d_M_areDrained_139 rfl (by decide) H13
    · have H14 := H12 c10
      refine Wp.iconst d_M_areDrained_134 (by decide) ?_
      refine Wp.goto 139 d_M_areDrained_135 (by decide) ?_
      exact Wq.zret d_M_areDrained_139 rfl (by decide) H14
  · have H5 := H3 c1
    refine Wp.iconst d_M_areDrained_9 (by decide) ?_
    refine Wp.istore_n 3 [(0, .inr (.inr 70)), (1, .inl x1), (2, .inl x2), (3, .inl 0)] d_M_areDrained_10 rfl (by decide) rfl ?_
    exact H5
theorem s_M_areDrained_11 {l : Launch} {G : GT} {d : Nat} {P : Int → MM → Prop} {m : MM} (x1 : Int) (x2 : Int) (x3 : Int)  (H : wfM m → inR x1 → inR x2 → inR x3 → (0 ≤ (m 70 29) ∧ (m 70 29) < (2 : Int)) ∧ ((x3 ≥ (m 73 (m 70 29)) → ((inR (x2 + 1)) ∧ (Wq l G false Y_M_areDrained d (QI P) 4 [(0, .inr (.inr 70)), (1, .inl x1), (2, .inl (x2 + 1))] [] m))) ∧ (¬ (x3 ≥ (m 73 (m 70 29))) → ((inR (5 * (m 70 29))) ∧ ((inR ((5 * (m 70 29)) + x3)) ∧ ((0 ≤ ((5 * (m 70 29)) + x3) ∧ ((5 * (m 70 29)) + x3) < (10 : Int)) ∧ (((m 81 ((5 * (m 70 29)) + x3)) ≤ 0 → (Wq l G false Y_M_areDrained d (QI P) 49 [(0, .inr (.inr 70)), (1, .inl x1), (2, .inl x2), (3, .inl x3), (4, .inl 0)] [] m)) ∧ (¬ ((m 81 ((5 * (m 70 29)) + x3)) ≤ 0) → (Wq l G false Y_M_areDrained d (QI P) 49 [(0, .inr (.inr 70)), (1, .inl (bOr x1 (bShl 1 x3))), (2, .inl x2), (3, .inl x3), (4, .inl 0)] [] m))))))))) : Wq l G false Y_M_areDrained d (QI P) 11 [(0, .inr (.inr 70)), (1, .inl x1), (2, .inl x2), (3, .inl x3)] [] m := by
  refine Wp.wf (fun hw _ hl hs => ?_)
  have H0 := H hw (hl _ (List.mem_of_getElem? (i := 1) rfl)) (hl _ (List.mem_of_getElem? (i := 2) rfl)) (hl _ (List.mem_of_getElem? (i := 3) rfl))
  refine Wp.iload_n 3 3 d_M_areDrained_11 rfl rfl ?_
  refine Wp.aload_n 0 0 d_M_areDrained_12 rfl rfl ?_
  refine Wp.getP 73 d_M_areDrained_13 fl_M_20 rfl rfl rfl ?_
  refine Wp.aload_n 0 0 d_M_areDrained_16 rfl rfl ?_
  refine Wq.getI 29 rfl d_M_areDrained_17 fl_M_234 rfl (Or.inl rfl) ?_
  obtain ⟨s1, H2⟩ := H0
  refine Wp.iald d_M_areDrained_20 rfl (Or.inl rfl) s1.1 s1.2 ?_
  obtain ⟨H4, H5⟩ := H2
  refine Wp.icmp_ge 111 d_M_areDrained_21 (by decide) (fun c3 => ?_) (fun c3 => ?_)
  · have H6 := H4 c3
    obtain ⟨s8, H9⟩ := H6
    refine Wp.iinc 2 2 [(0, .inr (.inr 70)), (1, .inl x1), (2, .inl (x2 + 1)), (3, .inl x3)] d_M_areDrained_111 rfl s8 (by decide) rfl ?_
    refine Wp.goto 4 d_M_areDrained_114 (by decide) ?_
    refine Wp.pick [0, 1, 2] [(0, .inr (.inr 70)), (1, .inl x1), (2, .inl (x2 + 1))] rfl ?_
    exact H9
  · have H7 := H5 c3
    refine Wp.aload_n 0 0 d_M_areDrained_24 rfl rfl ?_
    refine Wp.getP 81 d_M_areDrained_25 fl_M_45 rfl rfl rfl ?_
    refine Wp.iconst d_M_areDrained_28 (by decide) ?_
    refine Wp.aload_n 0 0 d_M_areDrained_29 rfl rfl ?_
    refine Wq.getI 29 rfl d_M_areDrained_30 fl_M_234 rfl (Or.inl rfl) ?_
    obtain ⟨s10, H11⟩ := H7
    refine Wp.imul d_M_areDrained_33 s10 ?_
    refine Wp.iload_n 3 3 d_M_areDrained_34 rfl rfl ?_
    obtain ⟨s12, H13⟩ := H11
    refine Wp.iadd d_M_areDrained_35 s12 ?_
    obtain ⟨s14, H15⟩ := H13
    refine Wp.iald d_M_areDrained_36 rfl (Or.inl rfl) s14.1 s14.2 ?_
    obtain ⟨H17, H18⟩ := H15
    refine Wp.if_le 46 d_M_areDrained_37 (by decide) (fun c16 => ?_) (fun c16 => ?_)
    · have H19 := H17 c16
      refine Wp.iconst d_M_areDrained_46 (by decide) ?_
      refine Wp.istore 4 [(0, .inr (.inr 70)), (1, .inl x1), (2, .inl x2), (3, .inl x3), (4, .inl 0)] d_M_areDrained_47 (by decide) rfl ?_
      exact H19
    · have H20 := H18 c16
      refine Wp.iload_n 1 1 d_M_areDrained_40 rfl rfl ?_
      refine Wp.iconst d_M_areDrained_41 (by decide) ?_
      refine Wp.iload_n 3 3 d_M_areDrained_42 rfl rfl ?_
      refine Wp.ishl d_M_areDrained_43 ?_
      refine Wp.ior d_M_areDrained_44 ?_
      refine Wp.istore_n 1 [(0, .inr (.inr 70)), (1, .inl (bOr x1 (bShl 1 x3))), (2, .inl x2), (3, .inl x3)] d_M_areDrained_45 rfl (by decide) rfl ?_
      refine Wp.iconst d_M_areDrained_46 (by decide) ?_
      refine Wp.istore 4 [(0, .inr (.inr 70)), (1, .inl (bOr x1 (bShl 1 x3))), (2, .inl x2), (3, .inl x3), (4, .inl 0)] d_M_areDrained_47 (by decide) rfl ?_
      exact H20
theorem s_M_areDrained_49 {l : Launch} {G : GT} {d : Nat} {P : Int → MM → Prop} {m : MM} (x1 : Int) (x2 : Int) (x3 : Int) (x4 : Int)  (H : wfM m → inR x1 → inR x2 → inR x3 → inR x4 → (0 ≤ (m 70 29) ∧ (m 70 29) < (2 : Int)) ∧ ((x4 ≥ (m 73 (m 70 29)) → ((inR (x3 + 1)) ∧ (Wq l G false Y_M_areDrained d (QI P) 11 [(0, .inr (.inr 70)), (1, .inl x1), (2, .inl x2), (3, .inl (x3 + 1))] [] m))) ∧ (¬ (x4 ≥ (m 73 (m 70 29))) → (∃ (e10 : Nat) (P11 : Int → MM → Prop), e10 < d ∧ CI l G Y_M_bit e10 [.inl x1, .inl x4] m P11 ∧ (∀ z16 m17, P11 z16 m17 → inR z16 → wfM m17 → ((z16 = 0 → ((inR (x4 + 1)) ∧ (Wq l G false Y_M_areDrained d (QI P) 49 [(0, .inr (.inr 70)), (1, .inl x1), (2, .inl x2), (3, .inl x3), (4, .inl (x4 + 1))] [] m17))) ∧ (¬ (z16 = 0) → ((inR (5 * (m17 70 29))) ∧ ((inR ((5 * (m17 70 29)) + x3)) ∧ ((inR (5 * ((5 * (m17 70 29)) + x3))) ∧ ((inR ((5 * ((5 * (m17 70 29)) + x3)) + x4)) ∧ ((0 ≤ ((5 * ((5 * (m17 70 29)) + x3)) + x4) ∧ ((5 * ((5 * (m17 70 29)) + x3)) + x4) < (50 : Int)) ∧ (((m17 80 ((5 * ((5 * (m17 70 29)) + x3)) + x4)) ≤ 0 → ((inR (x4 + 1)) ∧ (Wq l G false Y_M_areDrained d (QI P) 49 [(0, .inr (.inr 70)), (1, .inl x1), (2, .inl x2), (3, .inl x3), (4, .inl (x4 + 1))] [] m17))) ∧ (¬ ((m17 80 ((5 * ((5 * (m17 70 29)) + x3)) + x4)) ≤ 0) → ((inR (x4 + 1)) ∧ (Wq l G false Y_M_areDrained d (QI P) 49 [(0, .inr (.inr 70)), (1, .inl (bOr x1 (bShl 1 x3))), (2, .inl x2), (3, .inl x3), (4, .inl (x4 + 1))] [] m17)))))))))))))))) : Wq l G false Y_M_areDrained d (QI P) 49 [(0, .inr (.inr 70)), (1, .inl x1), (2, .inl x2), (3, .inl x3), (4, .inl x4)] [] m := by
  refine Wp.wf (fun hw _ hl hs => ?_)
  have H0 := H hw (hl _ (List.mem_of_getElem? (i := 1) rfl)) (hl _ (List.mem_of_getElem? (i := 2) rfl)) (hl _ (List.mem_of_getElem? (i := 3) rfl)) (hl _ (List.mem_of_getElem? (i := 4) rfl))
  refine Wp.iload 4 4 d_M_areDrained_49 rfl ?_
  refine Wp.aload_n 0 0 d_M_areDrained_51 rfl rfl ?_
  refine Wp.getP 73 d_M_areDrained_52 fl_M_20 rfl rfl rfl ?_
  refine Wp.aload_n 0 0 d_M_areDrained_55 rfl rfl ?_
  refine Wq.getI 29 rfl d_M_areDrained_56 fl_M_234 rfl (Or.inl rfl) ?_
  obtain ⟨s1, H2⟩ := H0
  refine Wp.iald d_M_areDrained_59 rfl (Or.inl rfl) s1.1 s1.2 ?_
  obtain ⟨H4, H5⟩ := H2
  refine Wp.icmp_ge 105 d_M_areDrained_60 (by decide) (fun c3 => ?_) (fun c3 => ?_)
  · have H6 := H4 c3
    obtain ⟨s8, H9⟩ := H6
    refine Wp.iinc 3 3 [(0, .inr (.inr 70)), (1, .inl x1), (2, .inl x2), (3, .inl (x3 + 1)), (4, .inl x4)] d_M_areDrained_105 rfl s8 (by decide) rfl ?_
    refine Wp.goto 11 d_M_areDrained_108 (by decide) ?_
    refine Wp.pick [0, 1, 2, 3] [(0, .inr (.inr 70)), (1, .inl x1), (2, .inl x2), (3, .inl (x3 + 1))] rfl ?_
    exact H9
  · have H7 := H5 c3
    refine Wp.iload_n 1 1 d_M_areDrained_63 rfl rfl ?_
    refine Wp.iload 4 4 d_M_areDrained_64 rfl ?_
    obtain ⟨e10, P11, hd12, ho13, H14⟩ := H7
    refine Wq.SI (st := []) [.inl x1, .inl x4] d_M_areDrained_66 k_M_bit ml_M_252 rfl  (fun h => by cases h) (Nat.le_of_ble_eq_true rfl) hd12 ho13 (fun z16 m17 hp18 hz19 hw20 => ?_)
    have H15 := H14 z16 m17 hp18 hz19 hw20
    obtain ⟨H22, H23⟩ := H15
    refine Wp.if_eq 99 d_M_areDrained_69 (by decide) (fun c21 => ?_) (fun c21 => ?_)
    · have H24 := H22 c21
      obtain ⟨s26, H27⟩ := H24
      refine Wp.iinc 4 4 [(0, .inr (.inr 70)), (1, .inl x1), (2, .inl x2), (3, .inl x3), (4, .inl (x4 + 1))] d_M_areDrained_99 rfl s26 (by decide) rfl ?_
      refine Wp.goto 49 d_M_areDrained_102 (by decide) ?_
      exact H27
    · have H25 := H23 c21
      refine Wp.aload_n 0 0 d_M_areDrained_72 rfl rfl ?_
      refine Wp.getP 80 d_M_areDrained_73 fl_M_42 rfl rfl rfl ?_
      refine Wp.iconst d_M_areDrained_76 (by decide) ?_
      refine Wp.iconst d_M_areDrained_77 (by decide) ?_
      refine Wp.aload_n 0 0 d_M_areDrained_78 rfl rfl ?_
      refine Wq.getI 29 rfl d_M_areDrained_79 fl_M_234 rfl (Or.inl rfl) ?_
      obtain ⟨s28, H29⟩ := H25
      refine Wp.imul d_M_areDrained_82 s28 ?_
      refine Wp.iload_n 3 3 d_M_areDrained_83 rfl rfl ?_
      obtain ⟨s30, H31⟩ := H29
      refine Wp.iadd d_M_areDrained_84 s30 ?_
      obtain ⟨s32, H33⟩ := H31
      refine Wp.imul d_M_areDrained_85 s32 ?_
      refine Wp.iload 4 4 d_M_areDrained_86 rfl ?_
      obtain ⟨s34, H35⟩ := H33
      refine Wp.iadd d_M_areDrained_88 s34 ?_
      obtain ⟨s36, H37⟩ := H35
      refine Wp.iald d_M_areDrained_89 rfl (Or.inl rfl) s36.1 s36.2 ?_
      obtain ⟨H39, H40⟩ := H37
      refine Wp.if_le 99 d_M_areDrained_90 (by decide) (fun c38 => ?_) (fun c38 => ?_)
      · have H41 := H39 c38
        obtain ⟨s43, H44⟩ := H41
        refine Wp.iinc 4 4 [(0, .inr (.inr 70)), (1, .inl x1), (2, .inl x2), (3, .inl x3), (4, .inl (x4 + 1))] d_M_areDrained_99 rfl s43 (by decide) rfl ?_
        refine Wp.goto 49 d_M_areDrained_102 (by decide) ?_
        exact H44
      · have H42 := H40 c38
        refine Wp.iload_n 1 1 d_M_areDrained_93 rfl rfl ?_
        refine Wp.iconst d_M_areDrained_94 (by decide) ?_
        refine Wp.iload_n 3 3 d_M_areDrained_95 rfl rfl ?_
        refine Wp.ishl d_M_areDrained_96 ?_
        refine Wp.ior d_M_areDrained_97 ?_
        refine Wp.istore_n 1 [(0, .inr (.inr 70)), (1, .inl (bOr x1 (bShl 1 x3))), (2, .inl x2), (3, .inl x3), (4, .inl x4)] d_M_areDrained_98 rfl (by decide) rfl ?_
        obtain ⟨s45, H46⟩ := H42
        refine Wp.iinc 4 4 [(0, .inr (.inr 70)), (1, .inl (bOr x1 (bShl 1 x3))), (2, .inl x2), (3, .inl x3), (4, .inl (x4 + 1))] d_M_areDrained_99 rfl s45 (by decide) rfl ?_
        refine Wp.goto 49 d_M_areDrained_102 (by decide) ?_
        exact H46
theorem d_M_fault_0 : decode Y_M_fault.2.1 0 = .ok (.iload_n 1, 1) := by decide +kernel
theorem d_M_fault_1 : decode Y_M_fault.2.1 1 = .ok (.ifCond .ne 10, 3) := by decide +kernel
theorem d_M_fault_4 : decode Y_M_fault.2.1 4 = .ok (.aload_n 0, 1) := by decide +kernel
theorem d_M_fault_5 : decode Y_M_fault.2.1 5 = .ok (.getfield 146, 3) := by decide +kernel
theorem d_M_fault_8 : decode Y_M_fault.2.1 8 = .ok (.goto 16, 3) := by decide +kernel
theorem d_M_fault_11 : decode Y_M_fault.2.1 11 = .ok (.iload_n 1, 1) := by decide +kernel
theorem d_M_fault_12 : decode Y_M_fault.2.1 12 = .ok (.iconst 1, 1) := by decide +kernel
theorem d_M_fault_13 : decode Y_M_fault.2.1 13 = .ok (.if_icmp .ne 10, 3) := by decide +kernel
theorem d_M_fault_16 : decode Y_M_fault.2.1 16 = .ok (.aload_n 0, 1) := by decide +kernel
theorem d_M_fault_17 : decode Y_M_fault.2.1 17 = .ok (.getfield 16, 3) := by decide +kernel
theorem d_M_fault_20 : decode Y_M_fault.2.1 20 = .ok (.goto 4, 3) := by decide +kernel
theorem d_M_fault_23 : decode Y_M_fault.2.1 23 = .ok (.iconst (-1), 1) := by decide +kernel
theorem d_M_fault_24 : decode Y_M_fault.2.1 24 = .ok (.ireturn, 1) := by decide +kernel
theorem e_M_fault {l : Launch} {G : GT} {d : Nat} {P : Int → MM → Prop} {m : MM} (x1 : Int)  (H : wfM m → inR x1 → (x1 ≠ 0 → ((x1 ≠ 1 → (P (-1) m)) ∧ (¬ (x1 ≠ 1) → (P (m 70 5) m)))) ∧ (¬ (x1 ≠ 0) → (P (m 70 4) m))) : CI l G Y_M_fault d [.inr (.inr 70), .inl x1] m P := by
  refine CI.of [(0, .inr (.inr 70)), (1, .inl x1)] k_M_fault.1 (Nat.le_of_ble_eq_true rfl) rfl (Wp.wf (fun hw _ hl hs => ?_))
  have H0 := H hw (hl _ (List.mem_of_getElem? (i := 1) rfl))
  refine Wp.iload_n 1 1 d_M_fault_0 rfl rfl ?_
  obtain ⟨H2, H3⟩ := H0
  refine Wp.if_ne 11 d_M_fault_1 (by decide) (fun c1 => ?_) (fun c1 => ?_)
  · have H4 := H2 c1
    refine Wp.iload_n 1 1 d_M_fault_11 rfl rfl ?_
    refine Wp.iconst d_M_fault_12 (by decide) ?_
    obtain ⟨H7, H8⟩ := H4
    refine Wp.icmp_ne 23 d_M_fault_13 (by decide) (fun c6 => ?_) (fun c6 => ?_)
    · have H9 := H7 c6
      refine Wp.iconst d_M_fault_23 (by decide) ?_
      exact Wq.iret d_M_fault_24 rfl H9
    · have H10 := H8 c6
      refine Wp.aload_n 0 0 d_M_fault_16 rfl rfl ?_
      refine Wq.getI 5 rfl d_M_fault_17 fl_M_16 rfl (Or.inl rfl) ?_
      refine Wp.goto 24 d_M_fault_20 (by decide) ?_
      exact Wq.iret d_M_fault_24 rfl H10
  · have H5 := H3 c1
    refine Wp.aload_n 0 0 d_M_fault_4 rfl rfl ?_
    refine Wq.getI 4 rfl d_M_fault_5 fl_M_146 rfl (Or.inl rfl) ?_
    refine Wp.goto 24 d_M_fault_8 (by decide) ?_
    exact Wq.iret d_M_fault_24 rfl H5
theorem d_M_plate_0 : decode Y_M_plate.2.1 0 = .ok (.aload_n 0, 1) := by decide +kernel
theorem d_M_plate_1 : decode Y_M_plate.2.1 1 = .ok (.iload_n 1, 1) := by decide +kernel
theorem d_M_plate_2 : decode Y_M_plate.2.1 2 = .ok (.invokevirtual 405, 3) := by decide +kernel
theorem d_M_plate_5 : decode Y_M_plate.2.1 5 = .ok (.ifCond .ne 5, 3) := by decide +kernel
theorem d_M_plate_8 : decode Y_M_plate.2.1 8 = .ok (.iconst (-1), 1) := by decide +kernel
theorem d_M_plate_9 : decode Y_M_plate.2.1 9 = .ok (.ireturn, 1) := by decide +kernel
theorem d_M_plate_10 : decode Y_M_plate.2.1 10 = .ok (.iload_n 2, 1) := by decide +kernel
theorem d_M_plate_11 : decode Y_M_plate.2.1 11 = .ok (.tableswitch 56 0 3 #[29, 38, 44, 50], 29) := by decide +kernel
theorem d_M_plate_40 : decode Y_M_plate.2.1 40 = .ok (.aload_n 0, 1) := by decide +kernel
theorem d_M_plate_41 : decode Y_M_plate.2.1 41 = .ok (.getfield 73, 3) := by decide +kernel
theorem d_M_plate_44 : decode Y_M_plate.2.1 44 = .ok (.iconst 0, 1) := by decide +kernel
theorem d_M_plate_45 : decode Y_M_plate.2.1 45 = .ok (.iload_n 1, 1) := by decide +kernel
theorem d_M_plate_46 : decode Y_M_plate.2.1 46 = .ok (.iadd, 1) := by decide +kernel
theorem d_M_plate_47 : decode Y_M_plate.2.1 47 = .ok (.iaload, 1) := by decide +kernel
theorem d_M_plate_48 : decode Y_M_plate.2.1 48 = .ok (.ireturn, 1) := by decide +kernel
theorem d_M_plate_49 : decode Y_M_plate.2.1 49 = .ok (.aload_n 0, 1) := by decide +kernel
theorem d_M_plate_50 : decode Y_M_plate.2.1 50 = .ok (.iload_n 1, 1) := by decide +kernel
theorem d_M_plate_51 : decode Y_M_plate.2.1 51 = .ok (.invokevirtual 328, 3) := by decide +kernel
theorem d_M_plate_54 : decode Y_M_plate.2.1 54 = .ok (.ireturn, 1) := by decide +kernel
theorem d_M_plate_55 : decode Y_M_plate.2.1 55 = .ok (.aload_n 0, 1) := by decide +kernel
theorem d_M_plate_56 : decode Y_M_plate.2.1 56 = .ok (.iload_n 1, 1) := by decide +kernel
theorem d_M_plate_57 : decode Y_M_plate.2.1 57 = .ok (.invokevirtual 345, 3) := by decide +kernel
theorem d_M_plate_60 : decode Y_M_plate.2.1 60 = .ok (.ireturn, 1) := by decide +kernel
theorem d_M_plate_61 : decode Y_M_plate.2.1 61 = .ok (.aload_n 0, 1) := by decide +kernel
theorem d_M_plate_62 : decode Y_M_plate.2.1 62 = .ok (.iload_n 1, 1) := by decide +kernel
theorem d_M_plate_63 : decode Y_M_plate.2.1 63 = .ok (.invokevirtual 408, 3) := by decide +kernel
theorem d_M_plate_66 : decode Y_M_plate.2.1 66 = .ok (.ireturn, 1) := by decide +kernel
theorem d_M_plate_67 : decode Y_M_plate.2.1 67 = .ok (.iconst (-1), 1) := by decide +kernel
theorem d_M_plate_68 : decode Y_M_plate.2.1 68 = .ok (.ireturn, 1) := by decide +kernel
theorem e_M_plate {l : Launch} {G : GT} {d : Nat} {P : Int → MM → Prop} {m : MM} (x1 : Int) (x2 : Int)  (H : wfM m → inR x1 → inR x2 → ∃ (e1 : Nat) (P2 : Int → MM → Prop), e1 < d ∧ CI l G Y_M_isPlate e1 [.inr (.inr 70), .inl x1] m P2 ∧ (∀ z7 m8, P2 z7 m8 → inR z7 → wfM m8 → ((z7 ≠ 0 → ((x2 = 0 → ((inR (0 + x1)) ∧ ((0 ≤ (0 + x1) ∧ (0 + x1) < (8 : Int)) ∧ (P (m8 90 (0 + x1)) m8)))) ∧ (x2 = 1 → (∃ (e29 : Nat) (P30 : Int → MM → Prop), e29 < d ∧ CI l G Y_M_brimOf e29 [.inr (.inr 70), .inl x1] m8 P30 ∧ (∀ z35 m36, P30 z35 m36 → inR z35 → wfM m36 → (P z35 m36)))) ∧ (x2 = 2 → (∃ (e44 : Nat) (P45 : Int → MM → Prop), e44 < d ∧ CI l G Y_M_drainOf e44 [.inr (.inr 70), .inl x1] m8 P45 ∧ (∀ z50 m51, P45 z50 m51 → inR z50 → wfM m51 → (P z50 m51)))) ∧ (x2 = 3 → (∃ (e59 : Nat) (P60 : Int → MM → Prop), e59 < d ∧ CI l G Y_M_joinedTo e59 [.inr (.inr 70), .inl x1] m8 P60 ∧ (∀ z65 m66, P60 z65 m66 → inR z65 → wfM m66 → (P z65 m66)))) ∧ (¬ (x2 = 0) → ¬ (x2 = 1) → ¬ (x2 = 2) → ¬ (x2 = 3) → (P (-1) m8)))) ∧ (¬ (z7 ≠ 0) → (P (-1) m8))))) : CI l G Y_M_plate d [.inr (.inr 70), .inl x1, .inl x2] m P := by
  refine CI.of [(0, .inr (.inr 70)), (1, .inl x1), (2, .inl x2)] k_M_plate.1 (Nat.le_of_ble_eq_true rfl) rfl (Wp.wf (fun hw _ hl hs => ?_))
  have H0 := H hw (hl _ (List.mem_of_getElem? (i := 1) rfl)) (hl _ (List.mem_of_getElem? (i := 2) rfl))
  refine Wp.aload_n 0 0 d_M_plate_0 rfl rfl ?_
  refine Wp.iload_n 1 1 d_M_plate_1 rfl rfl ?_
  obtain ⟨e1, P2, hd3, ho4, H5⟩ := H0
  refine Wq.VI (st := []) [.inl x1] d_M_plate_2 k_M_isPlate ml_M_405 rfl rfl rfl (fun h => by cases h) (Nat.le_of_ble_eq_true rfl) hd3 ho4 (fun z7 m8 hp9 hz10 hw11 => ?_)
  have H6 := H5 z7 m8 hp9 hz10 hw11
  obtain ⟨H13, H14⟩ := H6
  refine Wp.if_ne 10 d_M_plate_5 (by decide) (fun c12 => ?_) (fun c12 => ?_)
  · have H15 := H13 c12
    refine Wp.iload_n 2 2 d_M_plate_10 rfl rfl ?_
    obtain ⟨H17, H18⟩ := H15
    by_cases c19 : x2 = 0
    · have H20 := H17 c19
      refine Wp.tin (off := 29) 0 40 d_M_plate_11 c19 (by decide +kernel) (by decide +kernel) (by decide +kernel) (by decide +kernel) ?_
      refine Wp.aload_n 0 0 d_M_plate_40 rfl rfl ?_
      refine Wp.getP 90 d_M_plate_41 fl_M_73 rfl rfl rfl ?_
      refine Wp.iconst d_M_plate_44 (by decide) ?_
      refine Wp.iload_n 1 1 d_M_plate_45 rfl rfl ?_
      obtain ⟨s21, H22⟩ := H20
      refine Wp.iadd d_M_plate_46 s21 ?_
      obtain ⟨s23, H24⟩ := H22
      refine Wp.iald d_M_plate_47 rfl (Or.inl rfl) s23.1 s23.2 ?_
      exact Wq.iret d_M_plate_48 rfl H24
    obtain ⟨H25, H26⟩ := H18
    by_cases c27 : x2 = 1
    · have H28 := H25 c27
      refine Wp.tin (off := 38) 1 49 d_M_plate_11 c27 (by decide +kernel) (by decide +kernel) (by decide +kernel) (by decide +kernel) ?_
      refine Wp.aload_n 0 0 d_M_plate_49 rfl rfl ?_
      refine Wp.iload_n 1 1 d_M_plate_50 rfl rfl ?_
      obtain ⟨e29, P30, hd31, ho32, H33⟩ := H28
      refine Wq.VI (st := []) [.inl x1] d_M_plate_51 k_M_brimOf ml_M_328 rfl rfl rfl (fun h => by cases h) (Nat.le_of_ble_eq_true rfl) hd31 ho32 (fun z35 m36 hp37 hz38 hw39 => ?_)
      have H34 := H33 z35 m36 hp37 hz38 hw39
      exact Wq.iret d_M_plate_54 rfl H34
    obtain ⟨H40, H41⟩ := H26
    by_cases c42 : x2 = 2
    · have H43 := H40 c42
      refine Wp.tin (off := 44) 2 55 d_M_plate_11 c42 (by decide +kernel) (by decide +kernel) (by decide +kernel) (by decide +kernel) ?_
      refine Wp.aload_n 0 0 d_M_plate_55 rfl rfl ?_
      refine Wp.iload_n 1 1 d_M_plate_56 rfl rfl ?_
      obtain ⟨e44, P45, hd46, ho47, H48⟩ := H43
      refine Wq.VI (st := []) [.inl x1] d_M_plate_57 k_M_drainOf ml_M_345 rfl rfl rfl (fun h => by cases h) (Nat.le_of_ble_eq_true rfl) hd46 ho47 (fun z50 m51 hp52 hz53 hw54 => ?_)
      have H49 := H48 z50 m51 hp52 hz53 hw54
      exact Wq.iret d_M_plate_60 rfl H49
    obtain ⟨H55, H56⟩ := H41
    by_cases c57 : x2 = 3
    · have H58 := H55 c57
      refine Wp.tin (off := 50) 3 61 d_M_plate_11 c57 (by decide +kernel) (by decide +kernel) (by decide +kernel) (by decide +kernel) ?_
      refine Wp.aload_n 0 0 d_M_plate_61 rfl rfl ?_
      refine Wp.iload_n 1 1 d_M_plate_62 rfl rfl ?_
      obtain ⟨e59, P60, hd61, ho62, H63⟩ := H58
      refine Wq.VI (st := []) [.inl x1] d_M_plate_63 k_M_joinedTo ml_M_408 rfl rfl rfl (fun h => by cases h) (Nat.le_of_ble_eq_true rfl) hd61 ho62 (fun z65 m66 hp67 hz68 hw69 => ?_)
      have H64 := H63 z65 m66 hp67 hz68 hw69
      exact Wq.iret d_M_plate_66 rfl H64
    have H70 := H56 c19 c27 c42 c57
    have ho11 : x2 < 0 ∨ 3 < x2 := (lt_or_geI x2 0).elim Or.inl (fun h9 => Or.inr (Int.lt_of_lt_of_le (by decide +kernel) (ne_step (ne_step (ne_step (ne_step h9 c19) c27) c42) c57)))
    refine Wp.tout 67 d_M_plate_11 ho11 (by decide +kernel) ?_
    refine Wp.iconst d_M_plate_67 (by decide) ?_
    exact Wq.iret d_M_plate_68 rfl H70
  · have H16 := H14 c12
    refine Wp.iconst d_M_plate_8 (by decide) ?_
    exact Wq.iret d_M_plate_9 rfl H16
theorem d_M_isPlate_0 : decode Y_M_isPlate.2.1 0 = .ok (.iload_n 1, 1) := by decide +kernel
theorem d_M_isPlate_1 : decode Y_M_isPlate.2.1 1 = .ok (.iconst 0, 1) := by decide +kernel
theorem d_M_isPlate_2 : decode Y_M_isPlate.2.1 2 = .ok (.aload_n 0, 1) := by decide +kernel
theorem d_M_isPlate_3 : decode Y_M_isPlate.2.1 3 = .ok (.invokevirtual 338, 3) := by decide +kernel
theorem d_M_isPlate_6 : decode Y_M_isPlate.2.1 6 = .ok (.iconst 1, 1) := by decide +kernel
theorem d_M_isPlate_7 : decode Y_M_isPlate.2.1 7 = .ok (.isub, 1) := by decide +kernel
theorem d_M_isPlate_8 : decode Y_M_isPlate.2.1 8 = .ok (.invokestatic 341, 3) := by decide +kernel
theorem d_M_isPlate_11 : decode Y_M_isPlate.2.1 11 = .ok (.ireturn, 1) := by decide +kernel
theorem e_M_isPlate {l : Launch} {G : GT} {d : Nat} {P : Int → MM → Prop} {m : MM} (x1 : Int)  (H : wfM m → inR x1 → ∃ (e1 : Nat) (P2 : Int → MM → Prop), e1 < d ∧ CI l G Y_M_lots e1 [.inr (.inr 70)] m P2 ∧ (∀ z7 m8, P2 z7 m8 → inR z7 → wfM m8 → ((inR (z7 - 1)) ∧ (∃ (e14 : Nat) (P15 : Int → MM → Prop), e14 < d ∧ CI l G Y_M_isIn e14 [.inl x1, .inl 0, .inl (z7 - 1)] m8 P15 ∧ (∀ z20 m21, P15 z20 m21 → inR z20 → wfM m21 → ((z20 = 0 ∨ z20 = 1) ∧ P z20 m21)))))) : CI l G Y_M_isPlate d [.inr (.inr 70), .inl x1] m P := by
  refine CI.of [(0, .inr (.inr 70)), (1, .inl x1)] k_M_isPlate.1 (Nat.le_of_ble_eq_true rfl) rfl (Wp.wf (fun hw _ hl hs => ?_))
  have H0 := H hw (hl _ (List.mem_of_getElem? (i := 1) rfl))
  refine Wp.iload_n 1 1 d_M_isPlate_0 rfl rfl ?_
  refine Wp.iconst d_M_isPlate_1 (by decide) ?_
  refine Wp.aload_n 0 0 d_M_isPlate_2 rfl rfl ?_
  obtain ⟨e1, P2, hd3, ho4, H5⟩ := H0
  refine Wq.VI (st := [.inl 0, .inl x1]) [] d_M_isPlate_3 k_M_lots ml_M_338 rfl rfl rfl (fun h => by cases h) (Nat.le_of_ble_eq_true rfl) hd3 ho4 (fun z7 m8 hp9 hz10 hw11 => ?_)
  have H6 := H5 z7 m8 hp9 hz10 hw11
  refine Wp.iconst d_M_isPlate_6 (by decide) ?_
  obtain ⟨s12, H13⟩ := H6
  refine Wp.isub d_M_isPlate_7 s12 ?_
  obtain ⟨e14, P15, hd16, ho17, H18⟩ := H13
  refine Wq.SI (st := []) [.inl x1, .inl 0, .inl (z7 - 1)] d_M_isPlate_8 k_M_isIn ml_M_341 rfl  (fun h => by cases h) (Nat.le_of_ble_eq_true rfl) hd16 ho17 (fun z20 m21 hp22 hz23 hw24 => ?_)
  have H19 := H18 z20 m21 hp22 hz23 hw24
  exact Wq.zret d_M_isPlate_11 rfl H19.1 H19.2
theorem d_M_isIn_0 : decode Y_M_isIn.2.1 0 = .ok (.iload_n 0, 1) := by decide +kernel
theorem d_M_isIn_1 : decode Y_M_isIn.2.1 1 = .ok (.iload_n 1, 1) := by decide +kernel
theorem d_M_isIn_2 : decode Y_M_isIn.2.1 2 = .ok (.if_icmp .lt 12, 3) := by decide +kernel
theorem d_M_isIn_5 : decode Y_M_isIn.2.1 5 = .ok (.iload_n 0, 1) := by decide +kernel
theorem d_M_isIn_6 : decode Y_M_isIn.2.1 6 = .ok (.iload_n 2, 1) := by decide +kernel
theorem d_M_isIn_7 : decode Y_M_isIn.2.1 7 = .ok (.if_icmp .gt 7, 3) := by decide +kernel
theorem d_M_isIn_10 : decode Y_M_isIn.2.1 10 = .ok (.iconst 1, 1) := by decide +kernel
theorem d_M_isIn_11 : decode Y_M_isIn.2.1 11 = .ok (.goto 4, 3) := by decide +kernel
theorem d_M_isIn_14 : decode Y_M_isIn.2.1 14 = .ok (.iconst 0, 1) := by decide +kernel
theorem d_M_isIn_15 : decode Y_M_isIn.2.1 15 = .ok (.ireturn, 1) := by decide +kernel
theorem e_M_isIn {l : Launch} {G : GT} {d : Nat} {P : Int → MM → Prop} {m : MM} (x0 : Int) (x1 : Int) (x2 : Int)  (H : wfM m → inR x0 → inR x1 → inR x2 → (x0 < x1 → (P 0 m)) ∧ (¬ (x0 < x1) → ((x0 > x2 → (P 0 m)) ∧ (¬ (x0 > x2) → (P 1 m))))) : CI l G Y_M_isIn d [.inl x0, .inl x1, .inl x2] m P := by
  refine CI.of [(0, .inl x0), (1, .inl x1), (2, .inl x2)] k_M_isIn.1 (Nat.le_of_ble_eq_true rfl) rfl (Wp.wf (fun hw _ hl hs => ?_))
  have H0 := H hw (hl _ (List.mem_of_getElem? (i := 0) rfl)) (hl _ (List.mem_of_getElem? (i := 1) rfl)) (hl _ (List.mem_of_getElem? (i := 2) rfl))
  refine Wp.iload_n 0 0 d_M_isIn_0 rfl rfl ?_
  refine Wp.iload_n 1 1 d_M_isIn_1 rfl rfl ?_
  obtain ⟨H2, H3⟩ := H0
  refine Wp.icmp_lt 14 d_M_isIn_2 (by decide) (fun c1 => ?_) (fun c1 => ?_)
  · have H4 := H2 c1
    refine Wp.iconst d_M_isIn_14 (by decide) ?_
    exact Wq.zret d_M_isIn_15 rfl (by decide) H4
  · have H5 := H3 c1
    refine Wp.iload_n 0 0 d_M_isIn_5 rfl rfl ?_
    refine Wp.iload_n 2 2 d_M_isIn_6 rfl rfl ?_
    obtain ⟨H7, H8⟩ := H5
    refine Wp.icmp_gt 14 d_M_isIn_7 (by decide) (fun c6 => ?_) (fun c6 => ?_)
    · have H9 := H7 c6
      refine Wp.iconst d_M_isIn_14 (by decide) ?_
      exact Wq.zret d_M_isIn_15 rfl (by decide) H9
    · have H10 := H8 c6
      refine Wp.iconst d_M_isIn_10 (by decide) ?_
      refine Wp.goto 15 d_M_isIn_11 (by decide) ?_
      exact Wq.zret d_M_isIn_15 rfl (by decide) H10
theorem d_M_joinedTo_0 : decode Y_M_joinedTo.2.1 0 = .ok (.iconst 0, 1) := by decide +kernel
theorem d_M_joinedTo_1 : decode Y_M_joinedTo.2.1 1 = .ok (.istore_n 2, 1) := by decide +kernel
theorem d_M_joinedTo_2 : decode Y_M_joinedTo.2.1 2 = .ok (.iconst 0, 1) := by decide +kernel
theorem d_M_joinedTo_3 : decode Y_M_joinedTo.2.1 3 = .ok (.istore_n 3, 1) := by decide +kernel
theorem d_M_joinedTo_4 : decode Y_M_joinedTo.2.1 4 = .ok (.iload_n 3, 1) := by decide +kernel
theorem d_M_joinedTo_5 : decode Y_M_joinedTo.2.1 5 = .ok (.aload_n 0, 1) := by decide +kernel
theorem d_M_joinedTo_6 : decode Y_M_joinedTo.2.1 6 = .ok (.invokevirtual 338, 3) := by decide +kernel
theorem d_M_joinedTo_9 : decode Y_M_joinedTo.2.1 9 = .ok (.if_icmp .ge 24, 3) := by decide +kernel
theorem d_M_joinedTo_12 : decode Y_M_joinedTo.2.1 12 = .ok (.aload_n 0, 1) := by decide +kernel
theorem d_M_joinedTo_13 : decode Y_M_joinedTo.2.1 13 = .ok (.iload_n 1, 1) := by decide +kernel
theorem d_M_joinedTo_14 : decode Y_M_joinedTo.2.1 14 = .ok (.iload_n 3, 1) := by decide +kernel
theorem d_M_joinedTo_15 : decode Y_M_joinedTo.2.1 15 = .ok (.invokevirtual 348, 3) := by decide +kernel
theorem d_M_joinedTo_18 : decode Y_M_joinedTo.2.1 18 = .ok (.ifCond .le 9, 3) := by decide +kernel
theorem d_M_joinedTo_21 : decode Y_M_joinedTo.2.1 21 = .ok (.iload_n 2, 1) := by decide +kernel
theorem d_M_joinedTo_22 : decode Y_M_joinedTo.2.1 22 = .ok (.iconst 1, 1) := by decide +kernel
theorem d_M_joinedTo_23 : decode Y_M_joinedTo.2.1 23 = .ok (.iload_n 3, 1) := by decide +kernel
theorem d_M_joinedTo_24 : decode Y_M_joinedTo.2.1 24 = .ok (.ishl, 1) := by decide +kernel
theorem d_M_joinedTo_25 : decode Y_M_joinedTo.2.1 25 = .ok (.ior, 1) := by decide +kernel
theorem d_M_joinedTo_26 : decode Y_M_joinedTo.2.1 26 = .ok (.istore_n 2, 1) := by decide +kernel
theorem d_M_joinedTo_27 : decode Y_M_joinedTo.2.1 27 = .ok (.iinc 3 1, 3) := by decide +kernel
theorem d_M_joinedTo_30 : decode Y_M_joinedTo.2.1 30 = .ok (.goto (-26), 3) := by decide +kernel
theorem d_M_joinedTo_33 : decode Y_M_joinedTo.2.1 33 = .ok (.iload_n 2, 1) := by decide +kernel
theorem d_M_joinedTo_34 : decode Y_M_joinedTo.2.1 34 = .ok (.ireturn, 1) := by decide +kernel
theorem e_M_joinedTo {l : Launch} {G : GT} {d : Nat} {P : Int → MM → Prop} {m : MM} (x1 : Int)  (H : wfM m → inR x1 → Wq l G false Y_M_joinedTo d (QI P) 4 [(0, .inr (.inr 70)), (1, .inl x1), (2, .inl 0), (3, .inl 0)] [] m) : CI l G Y_M_joinedTo d [.inr (.inr 70), .inl x1] m P := by
  refine CI.of [(0, .inr (.inr 70)), (1, .inl x1)] k_M_joinedTo.1 (Nat.le_of_ble_eq_true rfl) rfl (Wp.wf (fun hw _ hl hs => ?_))
  have H0 := H hw (hl _ (List.mem_of_getElem? (i := 1) rfl))
  refine Wp.iconst d_M_joinedTo_0 (by decide) ?_
  refine Wp.istore_n 2 [(0, .inr (.inr 70)), (1, .inl x1), (2, .inl 0)] d_M_joinedTo_1 rfl (by decide) rfl ?_
  refine Wp.iconst d_M_joinedTo_2 (by decide) ?_
  refine Wp.istore_n 3 [(0, .inr (.inr 70)), (1, .inl x1), (2, .inl 0), (3, .inl 0)] d_M_joinedTo_3 rfl (by decide) rfl ?_
  exact H0
theorem s_M_joinedTo_4 {l : Launch} {G : GT} {d : Nat} {P : Int → MM → Prop} {m : MM} (x1 : Int) (x2 : Int) (x3 : Int)  (H : wfM m → inR x1 → inR x2 → inR x3 → ∃ (e1 : Nat) (P2 : Int → MM → Prop), e1 < d ∧ CI l G Y_M_lots e1 [.inr (.inr 70)] m P2 ∧ (∀ z7 m8, P2 z7 m8 → inR z7 → wfM m8 → ((x3 ≥ z7 → (P x2 m8)) ∧ (¬ (x3 ≥ z7) → (∃ (e17 : Nat) (P18 : Int → MM → Prop), e17 < d ∧ CI l G Y_M_wideOf e17 [.inr (.inr 70), .inl x1, .inl x3] m8 P18 ∧ (∀ z23 m24, P18 z23 m24 → inR z23 → wfM m24 → ((z23 ≤ 0 → ((inR (x3 + 1)) ∧ (Wq l G false Y_M_joinedTo d (QI P) 4 [(0, .inr (.inr 70)), (1, .inl x1), (2, .inl x2), (3, .inl (x3 + 1))] [] m24))) ∧ (¬ (z23 ≤ 0) → ((inR (x3 + 1)) ∧ (Wq l G false Y_M_joinedTo d (QI P) 4 [(0, .inr (.inr 70)), (1, .inl x1), (2, .inl (bOr x2 (bShl 1 x3))), (3, .inl (x3 + 1))] [] m24)))))))))) : Wq l G false Y_M_joinedTo d (QI P) 4 [(0, .inr (.inr 70)), (1, .inl x1), (2, .inl x2), (3, .inl x3)] [] m := by
  refine Wp.wf (fun hw _ hl hs => ?_)
  have H0 := H hw (hl _ (List.mem_of_getElem? (i := 1) rfl)) (hl _ (List.mem_of_getElem? (i := 2) rfl)) (hl _ (List.mem_of_getElem? (i := 3) rfl))
  refine Wp.iload_n 3 3 d_M_joinedTo_4 rfl rfl ?_
  refine Wp.aload_n 0 0 d_M_joinedTo_5 rfl rfl ?_
  obtain ⟨e1, P2, hd3, ho4, H5⟩ := H0
  refine Wq.VI (st := [.inl x3]) [] d_M_joinedTo_6 k_M_lots ml_M_338 rfl rfl rfl (fun h => by cases h) (Nat.le_of_ble_eq_true rfl) hd3 ho4 (fun z7 m8 hp9 hz10 hw11 => ?_)
  have H6 := H5 z7 m8 hp9 hz10 hw11
  obtain ⟨H13, H14⟩ := H6
  refine Wp.icmp_ge 33 d_M_joinedTo_9 (by decide) (fun c12 => ?_) (fun c12 => ?_)
  · have H15 := H13 c12
    refine Wp.iload_n 2 2 d_M_joinedTo_33 rfl rfl ?_
    exact Wq.iret d_M_joinedTo_34 rfl H15
  · have H16 := H14 c12
    refine Wp.aload_n 0 0 d_M_joinedTo_12 rfl rfl ?_
    refine Wp.iload_n 1 1 d_M_joinedTo_13 rfl rfl ?_
    refine Wp.iload_n 3 3 d_M_joinedTo_14 rfl rfl ?_
    obtain ⟨e17, P18, hd19, ho20, H21⟩ := H16
    refine Wq.VI (st := []) [.inl x1, .inl x3] d_M_joinedTo_15 k_M_wideOf ml_M_348 rfl rfl rfl (fun h => by cases h) (Nat.le_of_ble_eq_true rfl) hd19 ho20 (fun z23 m24 hp25 hz26 hw27 => ?_)
    have H22 := H21 z23 m24 hp25 hz26 hw27
    obtain ⟨H29, H30⟩ := H22
    refine Wp.if_le 27 d_M_joinedTo_18 (by decide) (fun c28 => ?_) (fun c28 => ?_)
    · have H31 := H29 c28
      obtain ⟨s33, H34⟩ := H31
      refine Wp.iinc 3 3 [(0, .inr (.inr 70)), (1, .inl x1), (2, .inl x2), (3, .inl (x3 + 1))] d_M_joinedTo_27 rfl s33 (by decide) rfl ?_
      refine Wp.goto 4 d_M_joinedTo_30 (by decide) ?_
      exact H34
    · have H32 := H30 c28
      refine Wp.iload_n 2 2 d_M_joinedTo_21 rfl rfl ?_
      refine Wp.iconst d_M_joinedTo_22 (by decide) ?_
      refine Wp.iload_n 3 3 d_M_joinedTo_23 rfl rfl ?_
      refine Wp.ishl d_M_joinedTo_24 ?_
      refine Wp.ior d_M_joinedTo_25 ?_
      refine Wp.istore_n 2 [(0, .inr (.inr 70)), (1, .inl x1), (2, .inl (bOr x2 (bShl 1 x3))), (3, .inl x3)] d_M_joinedTo_26 rfl (by decide) rfl ?_
      obtain ⟨s35, H36⟩ := H32
      refine Wp.iinc 3 3 [(0, .inr (.inr 70)), (1, .inl x1), (2, .inl (bOr x2 (bShl 1 x3))), (3, .inl (x3 + 1))] d_M_joinedTo_27 rfl s35 (by decide) rfl ?_
      refine Wp.goto 4 d_M_joinedTo_30 (by decide) ?_
      exact H36
theorem d_M_wide_0 : decode Y_M_wide.2.1 0 = .ok (.aload_n 0, 1) := by decide +kernel
theorem d_M_wide_1 : decode Y_M_wide.2.1 1 = .ok (.iload_n 1, 1) := by decide +kernel
theorem d_M_wide_2 : decode Y_M_wide.2.1 2 = .ok (.invokevirtual 405, 3) := by decide +kernel
theorem d_M_wide_5 : decode Y_M_wide.2.1 5 = .ok (.ifCond .eq 20, 3) := by decide +kernel
theorem d_M_wide_8 : decode Y_M_wide.2.1 8 = .ok (.aload_n 0, 1) := by decide +kernel
theorem d_M_wide_9 : decode Y_M_wide.2.1 9 = .ok (.iload_n 2, 1) := by decide +kernel
theorem d_M_wide_10 : decode Y_M_wide.2.1 10 = .ok (.invokevirtual 405, 3) := by decide +kernel
theorem d_M_wide_13 : decode Y_M_wide.2.1 13 = .ok (.ifCond .eq 12, 3) := by decide +kernel
theorem d_M_wide_16 : decode Y_M_wide.2.1 16 = .ok (.aload_n 0, 1) := by decide +kernel
theorem d_M_wide_17 : decode Y_M_wide.2.1 17 = .ok (.iload_n 1, 1) := by decide +kernel
theorem d_M_wide_18 : decode Y_M_wide.2.1 18 = .ok (.iload_n 2, 1) := by decide +kernel
theorem d_M_wide_19 : decode Y_M_wide.2.1 19 = .ok (.invokevirtual 348, 3) := by decide +kernel
theorem d_M_wide_22 : decode Y_M_wide.2.1 22 = .ok (.goto 4, 3) := by decide +kernel
theorem d_M_wide_25 : decode Y_M_wide.2.1 25 = .ok (.iconst (-1), 1) := by decide +kernel
theorem d_M_wide_26 : decode Y_M_wide.2.1 26 = .ok (.ireturn, 1) := by decide +kernel
theorem e_M_wide {l : Launch} {G : GT} {d : Nat} {P : Int → MM → Prop} {m : MM} (x1 : Int) (x2 : Int)  (H : wfM m → inR x1 → inR x2 → ∃ (e1 : Nat) (P2 : Int → MM → Prop), e1 < d ∧ CI l G Y_M_isPlate e1 [.inr (.inr 70), .inl x1] m P2 ∧ (∀ z7 m8, P2 z7 m8 → inR z7 → wfM m8 → ((z7 = 0 → (P (-1) m8)) ∧ (¬ (z7 = 0) → (∃ (e17 : Nat) (P18 : Int → MM → Prop), e17 < d ∧ CI l G Y_M_isPlate e17 [.inr (.inr 70), .inl x2] m8 P18 ∧ (∀ z23 m24, P18 z23 m24 → inR z23 → wfM m24 → ((z23 = 0 → (P (-1) m24)) ∧ (¬ (z23 = 0) → (∃ (e33 : Nat) (P34 : Int → MM → Prop), e33 < d ∧ CI l G Y_M_wideOf e33 [.inr (.inr 70), .inl x1, .inl x2] m24 P34 ∧ (∀ z39 m40, P34 z39 m40 → inR z39 → wfM m40 → (P z39 m40))))))))))) : CI l G Y_M_wide d [.inr (.inr 70), .inl x1, .inl x2] m P := by
  refine CI.of [(0, .inr (.inr 70)), (1, .inl x1), (2, .inl x2)] k_M_wide.1 (Nat.le_of_ble_eq_true rfl) rfl (Wp.wf (fun hw _ hl hs => ?_))
  have H0 := H hw (hl _ (List.mem_of_getElem? (i := 1) rfl)) (hl _ (List.mem_of_getElem? (i := 2) rfl))
  refine Wp.aload_n 0 0 d_M_wide_0 rfl rfl ?_
  refine Wp.iload_n 1 1 d_M_wide_1 rfl rfl ?_
  obtain ⟨e1, P2, hd3, ho4, H5⟩ := H0
  refine Wq.VI (st := []) [.inl x1] d_M_wide_2 k_M_isPlate ml_M_405 rfl rfl rfl (fun h => by cases h) (Nat.le_of_ble_eq_true rfl) hd3 ho4 (fun z7 m8 hp9 hz10 hw11 => ?_)
  have H6 := H5 z7 m8 hp9 hz10 hw11
  obtain ⟨H13, H14⟩ := H6
  refine Wp.if_eq 25 d_M_wide_5 (by decide) (fun c12 => ?_) (fun c12 => ?_)
  · have H15 := H13 c12
    refine Wp.iconst d_M_wide_25 (by decide) ?_
    exact Wq.iret d_M_wide_26 rfl H15
  · have H16 := H14 c12
    refine Wp.aload_n 0 0 d_M_wide_8 rfl rfl ?_
    refine Wp.iload_n 2 2 d_M_wide_9 rfl rfl ?_
    obtain ⟨e17, P18, hd19, ho20, H21⟩ := H16
    refine Wq.VI (st := []) [.inl x2] d_M_wide_10 k_M_isPlate ml_M_405 rfl rfl rfl (fun h => by cases h) (Nat.le_of_ble_eq_true rfl) hd19 ho20 (fun z23 m24 hp25 hz26 hw27 => ?_)
    have H22 := H21 z23 m24 hp25 hz26 hw27
    obtain ⟨H29, H30⟩ := H22
    refine Wp.if_eq 25 d_M_wide_13 (by decide) (fun c28 => ?_) (fun c28 => ?_)
    · have H31 := H29 c28
      refine Wp.iconst d_M_wide_25 (by decide) ?_
      exact Wq.iret d_M_wide_26 rfl H31
    · have H32 := H30 c28
      refine Wp.aload_n 0 0 d_M_wide_16 rfl rfl ?_
      refine Wp.iload_n 1 1 d_M_wide_17 rfl rfl ?_
      refine Wp.iload_n 2 2 d_M_wide_18 rfl rfl ?_
      obtain ⟨e33, P34, hd35, ho36, H37⟩ := H32
      refine Wq.VI (st := []) [.inl x1, .inl x2] d_M_wide_19 k_M_wideOf ml_M_348 rfl rfl rfl (fun h => by cases h) (Nat.le_of_ble_eq_true rfl) hd35 ho36 (fun z39 m40 hp41 hz42 hw43 => ?_)
      have H38 := H37 z39 m40 hp41 hz42 hw43
      refine Wp.goto 26 d_M_wide_22 (by decide) ?_
      exact Wq.iret d_M_wide_26 rfl H38
theorem d_M_far_0 : decode Y_M_far.2.1 0 = .ok (.aload_n 0, 1) := by decide +kernel
theorem d_M_far_1 : decode Y_M_far.2.1 1 = .ok (.iload_n 1, 1) := by decide +kernel
theorem d_M_far_2 : decode Y_M_far.2.1 2 = .ok (.invokevirtual 405, 3) := by decide +kernel
theorem d_M_far_5 : decode Y_M_far.2.1 5 = .ok (.ifCond .ne 5, 3) := by decide +kernel
theorem d_M_far_8 : decode Y_M_far.2.1 8 = .ok (.iconst (-1), 1) := by decide +kernel
theorem d_M_far_9 : decode Y_M_far.2.1 9 = .ok (.ireturn, 1) := by decide +kernel
theorem d_M_far_10 : decode Y_M_far.2.1 10 = .ok (.iconst 1, 1) := by decide +kernel
theorem d_M_far_11 : decode Y_M_far.2.1 11 = .ok (.iload_n 1, 1) := by decide +kernel
theorem d_M_far_12 : decode Y_M_far.2.1 12 = .ok (.ishl, 1) := by decide +kernel
theorem d_M_far_13 : decode Y_M_far.2.1 13 = .ok (.istore_n 2, 1) := by decide +kernel
theorem d_M_far_14 : decode Y_M_far.2.1 14 = .ok (.iconst 1, 1) := by decide +kernel
theorem d_M_far_15 : decode Y_M_far.2.1 15 = .ok (.istore_n 3, 1) := by decide +kernel
theorem d_M_far_16 : decode Y_M_far.2.1 16 = .ok (.iload_n 3, 1) := by decide +kernel
theorem d_M_far_17 : decode Y_M_far.2.1 17 = .ok (.iconst 5, 1) := by decide +kernel
theorem d_M_far_18 : decode Y_M_far.2.1 18 = .ok (.if_icmp .gt 73, 3) := by decide +kernel
theorem d_M_far_21 : decode Y_M_far.2.1 21 = .ok (.iload_n 2, 1) := by decide +kernel
theorem d_M_far_22 : decode Y_M_far.2.1 22 = .ok (.istore 4, 2) := by decide +kernel
theorem d_M_far_24 : decode Y_M_far.2.1 24 = .ok (.iconst 0, 1) := by decide +kernel
theorem d_M_far_25 : decode Y_M_far.2.1 25 = .ok (.istore 5, 2) := by decide +kernel
theorem d_M_far_27 : decode Y_M_far.2.1 27 = .ok (.iload 5, 2) := by decide +kernel
theorem d_M_far_29 : decode Y_M_far.2.1 29 = .ok (.aload_n 0, 1) := by decide +kernel
theorem d_M_far_30 : decode Y_M_far.2.1 30 = .ok (.invokevirtual 338, 3) := by decide +kernel
theorem d_M_far_33 : decode Y_M_far.2.1 33 = .ok (.if_icmp .ge 49, 3) := by decide +kernel
theorem d_M_far_36 : decode Y_M_far.2.1 36 = .ok (.iload_n 2, 1) := by decide +kernel
theorem d_M_far_37 : decode Y_M_far.2.1 37 = .ok (.iload 5, 2) := by decide +kernel
theorem d_M_far_39 : decode Y_M_far.2.1 39 = .ok (.invokestatic 252, 3) := by decide +kernel
theorem d_M_far_42 : decode Y_M_far.2.1 42 = .ok (.ifCond .eq 14, 3) := by decide +kernel
theorem d_M_far_45 : decode Y_M_far.2.1 45 = .ok (.aload_n 0, 1) := by decide +kernel
theorem d_M_far_46 : decode Y_M_far.2.1 46 = .ok (.iload 5, 2) := by decide +kernel
theorem d_M_far_48 : decode Y_M_far.2.1 48 = .ok (.invokevirtual 345, 3) := by decide +kernel
theorem d_M_far_51 : decode Y_M_far.2.1 51 = .ok (.ifCond .le 5, 3) := by decide +kernel
theorem d_M_far_54 : decode Y_M_far.2.1 54 = .ok (.iload_n 3, 1) := by decide +kernel
theorem d_M_far_55 : decode Y_M_far.2.1 55 = .ok (.ireturn, 1) := by decide +kernel
theorem d_M_far_56 : decode Y_M_far.2.1 56 = .ok (.iload_n 2, 1) := by decide +kernel
theorem d_M_far_57 : decode Y_M_far.2.1 57 = .ok (.iload 5, 2) := by decide +kernel
theorem d_M_far_59 : decode Y_M_far.2.1 59 = .ok (.invokestatic 252, 3) := by decide +kernel
theorem d_M_far_62 : decode Y_M_far.2.1 62 = .ok (.ifCond .eq 14, 3) := by decide +kernel
theorem d_M_far_65 : decode Y_M_far.2.1 65 = .ok (.iload 4, 2) := by decide +kernel
theorem d_M_far_67 : decode Y_M_far.2.1 67 = .ok (.aload_n 0, 1) := by decide +kernel
theorem d_M_far_68 : decode Y_M_far.2.1 68 = .ok (.iload 5, 2) := by decide +kernel
theorem d_M_far_70 : decode Y_M_far.2.1 70 = .ok (.invokevirtual 408, 3) := by decide +kernel
theorem d_M_far_73 : decode Y_M_far.2.1 73 = .ok (.ior, 1) := by decide +kernel
theorem d_M_far_74 : decode Y_M_far.2.1 74 = .ok (.istore 4, 2) := by decide +kernel
theorem d_M_far_76 : decode Y_M_far.2.1 76 = .ok (.iinc 5 1, 3) := by decide +kernel
theorem d_M_far_79 : decode Y_M_far.2.1 79 = .ok (.goto (-52), 3) := by decide +kernel
theorem d_M_far_82 : decode Y_M_far.2.1 82 = .ok (.iload 4, 2) := by decide +kernel
theorem d_M_far_84 : decode Y_M_far.2.1 84 = .ok (.istore_n 2, 1) := by decide +kernel
theorem d_M_far_85 : decode Y_M_far.2.1 85 = .ok (.iinc 3 1, 3) := by decide +kernel
theorem d_M_far_88 : decode Y_M_far.2.1 88 = .ok (.goto (-72), 3) := by decide +kernel
theorem d_M_far_91 : decode Y_M_far.2.1 91 = .ok (.iconst (-1), 1) := by decide +kernel
theorem d_M_far_92 : decode Y_M_far.2.1 92 = .ok (.ireturn, 1) := by decide +kernel
theorem e_M_far {l : Launch} {G : GT} {d : Nat} {P : Int → MM → Prop} {m : MM} (x1 : Int)  (H : wfM m → inR x1 → ∃ (e1 : Nat) (P2 : Int → MM → Prop), e1 < d ∧ CI l G Y_M_isPlate e1 [.inr (.inr 70), .inl x1] m P2 ∧ (∀ z7 m8, P2 z7 m8 → inR z7 → wfM m8 → ((z7 ≠ 0 → (Wq l G false Y_M_far d (QI P) 16 [(0, .inr (.inr 70)), (2, .inl (bShl 1 x1)), (3, .inl 1)] [] m8)) ∧ (¬ (z7 ≠ 0) → (P (-1) m8))))) : CI l G Y_M_far d [.inr (.inr 70), .inl x1] m P := by
  refine CI.of [(0, .inr (.inr 70)), (1, .inl x1)] k_M_far.1 (Nat.le_of_ble_eq_true rfl) rfl (Wp.wf (fun hw _ hl hs => ?_))
  have H0 := H hw (hl _ (List.mem_of_getElem? (i := 1) rfl))
  refine Wp.aload_n 0 0 d_M_far_0 rfl rfl ?_
  refine Wp.iload_n 1 1 d_M_far_1 rfl rfl ?_
  obtain ⟨e1, P2, hd3, ho4, H5⟩ := H0
  refine Wq.VI (st := []) [.inl x1] d_M_far_2 k_M_isPlate ml_M_405 rfl rfl rfl (fun h => by cases h) (Nat.le_of_ble_eq_true rfl) hd3 ho4 (fun z7 m8 hp9 hz10 hw11 => ?_)
  have H6 := H5 z7 m8 hp9 hz10 hw11
  obtain ⟨H13, H14⟩ := H6
  refine Wp.if_ne 10 d_M_far_5 (by decide) (fun c12 => ?_) (fun c12 => ?_)
  · have H15 := H13 c12
    refine Wp.iconst d_M_far_10 (by decide) ?_
    refine Wp.iload_n 1 1 d_M_far_11 rfl rfl ?_
    refine Wp.ishl d_M_far_12 ?_
    refine Wp.istore_n 2 [(0, .inr (.inr 70)), (1, .inl x1), (2, .inl (bShl 1 x1))] d_M_far_13 rfl (by decide) rfl ?_
    refine Wp.iconst d_M_far_14 (by decide) ?_
    refine Wp.istore_n 3 [(0, .inr (.inr 70)), (1, .inl x1), (2, .inl (bShl 1 x1)), (3, .inl 1)] d_M_far_15 rfl (by decide) rfl ?_
    refine Wp.pick [0, 2, 3] [(0, .inr (.inr 70)), (2, .inl (bShl 1 x1)), (3, .inl 1)] rfl ?_
    exact H15
  · have H16 := H14 c12
    refine Wp.iconst d_M_far_8 (by decide) ?_
    exact Wq.iret d_M_far_9 rfl H16
theorem s_M_far_16 {l : Launch} {G : GT} {d : Nat} {P : Int → MM → Prop} {m : MM} (x2 : Int) (x3 : Int)  (H : wfM m → inR x2 → inR x3 → (x3 > 5 → (P (-1) m)) ∧ (¬ (x3 > 5) → (Wq l G false Y_M_far d (QI P) 27 [(0, .inr (.inr 70)), (2, .inl x2), (3, .inl x3), (4, .inl x2), (5, .inl 0)] [] m))) : Wq l G false Y_M_far d (QI P) 16 [(0, .inr (.inr 70)), (2, .inl x2), (3, .inl x3)] [] m := by
  refine Wp.wf (fun hw _ hl hs => ?_)
  have H0 := H hw (hl _ (List.mem_of_getElem? (i := 1) rfl)) (hl _ (List.mem_of_getElem? (i := 2) rfl))
  refine Wp.iload_n 2 3 d_M_far_16 rfl rfl ?_
  refine Wp.iconst d_M_far_17 (by decide) ?_
  obtain ⟨H2, H3⟩ := H0
  refine Wp.icmp_gt 91 d_M_far_18 (by decide) (fun c1 => ?_) (fun c1 => ?_)
  · have H4 := H2 c1
    refine Wp.iconst d_M_far_91 (by decide) ?_
    exact Wq.iret d_M_far_92 rfl H4
  · have H5 := H3 c1
    refine Wp.iload_n 1 2 d_M_far_21 rfl rfl ?_
    refine Wp.istore 4 [(0, .inr (.inr 70)), (2, .inl x2), (3, .inl x3), (4, .inl x2)] d_M_far_22 (by decide) rfl ?_
    refine Wp.iconst d_M_far_24 (by decide) ?_
    refine Wp.istore 5 [(0, .inr (.inr 70)), (2, .inl x2), (3, .inl x3), (4, .inl x2), (5, .inl 0)] d_M_far_25 (by decide) rfl ?_
    exact H5
theorem s_M_far_27 {l : Launch} {G : GT} {d : Nat} {P : Int → MM → Prop} {m : MM} (x2 : Int) (x3 : Int) (x4 : Int) (x5 : Int)  (H : wfM m → inR x2 → inR x3 → inR x4 → inR x5 → ∃ (e1 : Nat) (P2 : Int → MM → Prop), e1 < d ∧ CI l G Y_M_lots e1 [.inr (.inr 70)] m P2 ∧ (∀ z7 m8, P2 z7 m8 → inR z7 → wfM m8 → ((x5 ≥ z7 → ((inR (x3 + 1)) ∧ (Wq l G false Y_M_far d (QI P) 16 [(0, .inr (.inr 70)), (2, .inl x4), (3, .inl (x3 + 1))] [] m8))) ∧ (¬ (x5 ≥ z7) → (∃ (e19 : Nat) (P20 : Int → MM → Prop), e19 < d ∧ CI l G Y_M_bit e19 [.inl x2, .inl x5] m8 P20 ∧ (∀ z25 m26, P20 z25 m26 → inR z25 → wfM m26 → ((z25 = 0 → (∃ (e35 : Nat) (P36 : Int → MM → Prop), e35 < d ∧ CI l G Y_M_bit e35 [.inl x2, .inl x5] m26 P36 ∧ (∀ z41 m42, P36 z41 m42 → inR z41 → wfM m42 → ((z41 = 0 → ((inR (x5 + 1)) ∧ (Wq l G false Y_M_far d (QI P) 27 [(0, .inr (.inr 70)), (2, .inl x2), (3, .inl x3), (4, .inl x4), (5, .inl (x5 + 1))] [] m42))) ∧ (¬ (z41 = 0) → (∃ (e53 : Nat) (P54 : Int → MM → Prop), e53 < d ∧ CI l G Y_M_joinedTo e53 [.inr (.inr 70), .inl x5] m42 P54 ∧ (∀ z59 m60, P54 z59 m60 → inR z59 → wfM m60 → ((inR (x5 + 1)) ∧ (Wq l G false Y_M_far d (QI P) 27 [(0, .inr (.inr 70)), (2, .inl x2), (3, .inl x3), (4, .inl (bOr x4 z59)), (5, .inl (x5 + 1))] [] m60))))))))) ∧ (¬ (z25 = 0) → (∃ (e66 : Nat) (P67 : Int → MM → Prop), e66 < d ∧ CI l G Y_M_drainOf e66 [.inr (.inr 70), .inl x5] m26 P67 ∧ (∀ z72 m73, P67 z72 m73 → inR z72 → wfM m73 → ((z72 ≤ 0 → (∃ (e82 : Nat) (P83 : Int → MM → Prop), e82 < d ∧ CI l G Y_M_bit e82 [.inl x2, .inl x5] m73 P83 ∧ (∀ z88 m89, P83 z88 m89 → inR z88 → wfM m89 → ((z88 = 0 → ((inR (x5 + 1)) ∧ (Wq l G false Y_M_far d (QI P) 27 [(0, .inr (.inr 70)), (2, .inl x2), (3, .inl x3), (4, .inl x4), (5, .inl (x5 + 1))] [] m89))) ∧ (¬ (z88 = 0) → (∃ (e100 : Nat) (P101 : Int → MM → Prop), e100 < d ∧ CI l G Y_M_joinedTo e100 [.inr (.inr 70), .inl x5] m89 P101 ∧ (∀ z106 m107, P101 z106 m107 → inR z106 → wfM m107 → ((inR (x5 + 1)) ∧ (Wq l G false Y_M_far d (QI P) 27 [(0, .inr (.inr 70)), (2, .inl x2), (3, .inl x3), (4, .inl (bOr x4 z106)), (5, .inl (x5 + 1))] [] m107))))))))) ∧ (¬ (z72 ≤ 0) → (P x3 m73))))))))))))) : Wq l G false Y_M_far d (QI P) 27 [(0, .inr (.inr 70)), (2, .inl x2), (3, .inl x3), (4, .inl x4), (5, .inl x5)] [] m := by
  refine Wp.wf (fun hw _ hl hs => ?_)
  have H0 := H hw (hl _ (List.mem_of_getElem? (i := 1) rfl)) (hl _ (List.mem_of_getElem? (i := 2) rfl)) (hl _ (List.mem_of_getElem? (i := 3) rfl)) (hl _ (List.mem_of_getElem? (i := 4) rfl))
  refine Wp.iload 4 5 d_M_far_27 rfl ?_
  refine Wp.aload_n 0 0 d_M_far_29 rfl rfl ?_
  obtain ⟨e1, P2, hd3, ho4, H5⟩ := H0
  refine Wq.VI (st := [.inl x5]) [] d_M_far_30 k_M_lots ml_M_338 rfl rfl rfl (fun h => by cases h) (Nat.le_of_ble_eq_true rfl) hd3 ho4 (fun z7 m8 hp9 hz10 hw11 => ?_)
  have H6 := H5 z7 m8 hp9 hz10 hw11
  obtain ⟨H13, H14⟩ := H6
  refine Wp.icmp_ge 82 d_M_far_33 (by decide) (fun c12 => ?_) (fun c12 => ?_)
  · have H15 := H13 c12
    refine Wp.iload 3 4 d_M_far_82 rfl ?_
    refine Wp.istore_n 2 [(0, .inr (.inr 70)), (2, .inl x4), (3, .inl x3), (4, .inl x4), (5, .inl x5)] d_M_far_84 rfl (by decide) rfl ?_
    obtain ⟨s17, H18⟩ := H15
    refine Wp.iinc 2 3 [(0, .inr (.inr 70)), (2, .inl x4), (3, .inl (x3 + 1)), (4, .inl x4), (5, .inl x5)] d_M_far_85 rfl s17 (by decide) rfl ?_
    refine Wp.goto 16 d_M_far_88 (by decide) ?_
    refine Wp.pick [0, 1, 2] [(0, .inr (.inr 70)), (2, .inl x4), (3, .inl (x3 + 1))] rfl ?_
    exact H18
  · have H16 := H14 c12
    refine Wp.iload_n 1 2 d_M_far_36 rfl rfl ?_
    refine Wp.iload 4 5 d_M_far_37 rfl ?_
    obtain ⟨e19, P20, hd21, ho22, H23⟩ := H16
    refine Wq.SI (st := []) [.inl x2, .inl x5] d_M_far_39 k_M_bit ml_M_252 rfl  (fun h => by cases h) (Nat.le_of_ble_eq_true rfl) hd21 ho22 (fun z25 m26 hp27 hz28 hw29 => ?_)
    have H24 := H23 z25 m26 hp27 hz28 hw29
    obtain ⟨H31, H32⟩ := H24
    refine Wp.if_eq 56 d_M_far_42 (by decide) (fun c30 => ?_) (fun c30 => ?_)
    · have H33 := H31 c30
      refine Wp.iload_n 1 2 d_M_far_56 rfl rfl ?_
      refine Wp.iload 4 5 d_M_far_57 rfl ?_
      obtain ⟨e35, P36, hd37, ho38, H39⟩ := H33
      refine Wq.SI (st := []) [.inl x2, .inl x5] d_M_far_59 k_M_bit ml_M_252 rfl  (fun h => by cases h) (Nat.le_of_ble_eq_true rfl) hd37 ho38 (fun z41 m42 hp43 hz44 hw45 => ?_)
      have H40 := H39 z41 m42 hp43 hz44 hw45
      obtain ⟨H47, H48⟩ := H40
      refine Wp.if_eq 76 d_M_far_62 (by decide) (fun c46 => ?_) (fun c46 => ?_)
      · have H49 := H47 c46
        obtain ⟨s51, H52⟩ := H49
        refine Wp.iinc 4 5 [(0, .inr (.inr 70)), (2, .inl x2), (3, .inl x3), (4, .inl x4), (5, .inl (x5 + 1))] d_M_far_76 rfl s51 (by decide) rfl ?_
        refine Wp.goto 27 d_M_far_79 (by decide) ?_
        exact H52
      · have H50 := H48 c46
        refine Wp.iload 3 4 d_M_far_65 rfl ?_
        refine Wp.aload_n 0 0 d_M_far_67 rfl rfl ?_
        refine Wp.iload 4 5 d_M_far_68 rfl ?_
        obtain ⟨e53, P54, hd55, ho56, H57⟩ := H50
        refine Wq.VI (st := [.inl x4]) [.inl x5] d_M_far_70 k_M_joinedTo ml_M_408 rfl rfl rfl (fun h => by cases h) (Nat.le_of_ble_eq_true rfl) hd55 ho56 (fun z59 m60 hp61 hz62 hw63 => ?_)
        have H58 := H57 z59 m60 hp61 hz62 hw63
        refine Wp.ior d_M_far_73 ?_
        refine Wp.istore 4 [(0, .inr (.inr 70)), (2, .inl x2), (3, .inl x3), (4, .inl (bOr x4 z59)), (5, .inl x5)] d_M_far_74 (by decide) rfl ?_
        obtain ⟨s64, H65⟩ := H58
        refine Wp.iinc 4 5 [(0, .inr (.inr 70)), (2, .inl x2), (3, .inl x3), (4, .inl (bOr x4 z59)), (5, .inl (x5 + 1))] d_M_far_76 rfl s64 (by decide) rfl ?_
        refine Wp.goto 27 d_M_far_79 (by decide) ?_
        exact H65
    · have H34 := H32 c30
      refine Wp.aload_n 0 0 d_M_far_45 rfl rfl ?_
      refine Wp.iload 4 5 d_M_far_46 rfl ?_
      obtain ⟨e66, P67, hd68, ho69, H70⟩ := H34
      refine Wq.VI (st := []) [.inl x5] d_M_far_48 k_M_drainOf ml_M_345 rfl rfl rfl (fun h => by cases h) (Nat.le_of_ble_eq_true rfl) hd68 ho69 (fun z72 m73 hp74 hz75 hw76 => ?_)
      have H71 := H70 z72 m73 hp74 hz75 hw76
      obtain ⟨H78, H79⟩ := H71
      refine Wp.if_le 56 d_M_far_51 (by decide) (fun c77 => ?_) (fun c77 => ?_)
      · have H80 := H78 c77
        refine Wp.iload_n 1 2 d_M_far_56 rfl rfl ?_
        refine Wp.iload 4 5 d_M_far_57 rfl ?_
        obtain ⟨e82, P83, hd84, ho85, H86⟩ := H80
        refine Wq.SI (st := []) [.inl x2, .inl x5] d_M_far_59 k_M_bit ml_M_252 rfl  (fun h => by cases h) (Nat.le_of_ble_eq_true rfl) hd84 ho85 (fun z88 m89 hp90 hz91 hw92 => ?_)
        have H87 := H86 z88 m89 hp90 hz91 hw92
        obtain ⟨H94, H95⟩ := H87
        refine Wp.if_eq 76 d_M_far_62 (by decide) (fun c93 => ?_) (fun c93 => ?_)
        · have H96 := H94 c93
          obtain ⟨s98, H99⟩ := H96
          refine Wp.iinc 4 5 [(0, .inr (.inr 70)), (2, .inl x2), (3, .inl x3), (4, .inl x4), (5, .inl (x5 + 1))] d_M_far_76 rfl s98 (by decide) rfl ?_
          refine Wp.goto 27 d_M_far_79 (by decide) ?_
          exact H99
        · have H97 := H95 c93
          refine Wp.iload 3 4 d_M_far_65 rfl ?_
          refine Wp.aload_n 0 0 d_M_far_67 rfl rfl ?_
          refine Wp.iload 4 5 d_M_far_68 rfl ?_
          obtain ⟨e100, P101, hd102, ho103, H104⟩ := H97
          refine Wq.VI (st := [.inl x4]) [.inl x5] d_M_far_70 k_M_joinedTo ml_M_408 rfl rfl rfl (fun h => by cases h) (Nat.le_of_ble_eq_true rfl) hd102 ho103 (fun z106 m107 hp108 hz109 hw110 => ?_)
          have H105 := H104 z106 m107 hp108 hz109 hw110
          refine Wp.ior d_M_far_73 ?_
          refine Wp.istore 4 [(0, .inr (.inr 70)), (2, .inl x2), (3, .inl x3), (4, .inl (bOr x4 z106)), (5, .inl x5)] d_M_far_74 (by decide) rfl ?_
          obtain ⟨s111, H112⟩ := H105
          refine Wp.iinc 4 5 [(0, .inr (.inr 70)), (2, .inl x2), (3, .inl x3), (4, .inl (bOr x4 z106)), (5, .inl (x5 + 1))] d_M_far_76 rfl s111 (by decide) rfl ?_
          refine Wp.goto 27 d_M_far_79 (by decide) ?_
          exact H112
      · have H81 := H79 c77
        refine Wp.iload_n 2 3 d_M_far_54 rfl rfl ?_
        exact Wq.iret d_M_far_55 rfl H81
theorem d_M_over_0 : decode Y_M_over.2.1 0 = .ok (.iconst 0, 1) := by decide +kernel
theorem d_M_over_1 : decode Y_M_over.2.1 1 = .ok (.istore_n 1, 1) := by decide +kernel
theorem d_M_over_2 : decode Y_M_over.2.1 2 = .ok (.iconst 0, 1) := by decide +kernel
theorem d_M_over_3 : decode Y_M_over.2.1 3 = .ok (.istore_n 2, 1) := by decide +kernel
theorem d_M_over_4 : decode Y_M_over.2.1 4 = .ok (.iload_n 2, 1) := by decide +kernel
theorem d_M_over_5 : decode Y_M_over.2.1 5 = .ok (.aload_n 0, 1) := by decide +kernel
theorem d_M_over_6 : decode Y_M_over.2.1 6 = .ok (.invokevirtual 338, 3) := by decide +kernel
theorem d_M_over_9 : decode Y_M_over.2.1 9 = .ok (.if_icmp .ge 31, 3) := by decide +kernel
theorem d_M_over_12 : decode Y_M_over.2.1 12 = .ok (.aload_n 0, 1) := by decide +kernel
theorem d_M_over_13 : decode Y_M_over.2.1 13 = .ok (.getfield 73, 3) := by decide +kernel
theorem d_M_over_16 : decode Y_M_over.2.1 16 = .ok (.iconst 0, 1) := by decide +kernel
theorem d_M_over_17 : decode Y_M_over.2.1 17 = .ok (.iload_n 2, 1) := by decide +kernel
theorem d_M_over_18 : decode Y_M_over.2.1 18 = .ok (.iadd, 1) := by decide +kernel
theorem d_M_over_19 : decode Y_M_over.2.1 19 = .ok (.iaload, 1) := by decide +kernel
theorem d_M_over_20 : decode Y_M_over.2.1 20 = .ok (.aload_n 0, 1) := by decide +kernel
theorem d_M_over_21 : decode Y_M_over.2.1 21 = .ok (.iload_n 2, 1) := by decide +kernel
theorem d_M_over_22 : decode Y_M_over.2.1 22 = .ok (.invokevirtual 328, 3) := by decide +kernel
theorem d_M_over_25 : decode Y_M_over.2.1 25 = .ok (.if_icmp .lt 9, 3) := by decide +kernel
theorem d_M_over_28 : decode Y_M_over.2.1 28 = .ok (.iload_n 1, 1) := by decide +kernel
theorem d_M_over_29 : decode Y_M_over.2.1 29 = .ok (.iconst 1, 1) := by decide +kernel
theorem d_M_over_30 : decode Y_M_over.2.1 30 = .ok (.iload_n 2, 1) := by decide +kernel
theorem d_M_over_31 : decode Y_M_over.2.1 31 = .ok (.ishl, 1) := by decide +kernel
theorem d_M_over_32 : decode Y_M_over.2.1 32 = .ok (.ior, 1) := by decide +kernel
theorem d_M_over_33 : decode Y_M_over.2.1 33 = .ok (.istore_n 1, 1) := by decide +kernel
theorem d_M_over_34 : decode Y_M_over.2.1 34 = .ok (.iinc 2 1, 3) := by decide +kernel
theorem d_M_over_37 : decode Y_M_over.2.1 37 = .ok (.goto (-33), 3) := by decide +kernel
theorem d_M_over_40 : decode Y_M_over.2.1 40 = .ok (.iload_n 1, 1) := by decide +kernel
theorem d_M_over_41 : decode Y_M_over.2.1 41 = .ok (.ireturn, 1) := by decide +kernel
theorem e_M_over {l : Launch} {G : GT} {d : Nat} {P : Int → MM → Prop} {m : MM}   (H : wfM m → Wq l G false Y_M_over d (QI P) 4 [(0, .inr (.inr 70)), (1, .inl 0), (2, .inl 0)] [] m) : CI l G Y_M_over d [.inr (.inr 70)] m P := by
  refine CI.of [(0, .inr (.inr 70))] k_M_over.1 (Nat.le_of_ble_eq_true rfl) rfl (Wp.wf (fun hw _ hl hs => ?_))
  have H0 := H hw
  refine Wp.iconst d_M_over_0 (by decide) ?_
  refine Wp.istore_n 1 [(0, .inr (.inr 70)), (1, .inl 0)] d_M_over_1 rfl (by decide) rfl ?_
  refine Wp.iconst d_M_over_2 (by decide) ?_
  refine Wp.istore_n 2 [(0, .inr (.inr 70)), (1, .inl 0), (2, .inl 0)] d_M_over_3 rfl (by decide) rfl ?_
  exact H0
theorem s_M_over_4 {l : Launch} {G : GT} {d : Nat} {P : Int → MM → Prop} {m : MM} (x1 : Int) (x2 : Int)  (H : wfM m → inR x1 → inR x2 → ∃ (e1 : Nat) (P2 : Int → MM → Prop), e1 < d ∧ CI l G Y_M_lots e1 [.inr (.inr 70)] m P2 ∧ (∀ z7 m8, P2 z7 m8 → inR z7 → wfM m8 → ((x2 ≥ z7 → (P x1 m8)) ∧ (¬ (x2 ≥ z7) → ((inR (0 + x2)) ∧ ((0 ≤ (0 + x2) ∧ (0 + x2) < (8 : Int)) ∧ (∃ (e21 : Nat) (P22 : Int → MM → Prop), e21 < d ∧ CI l G Y_M_brimOf e21 [.inr (.inr 70), .inl x2] m8 P22 ∧ (∀ z27 m28, P22 z27 m28 → inR z27 → wfM m28 → (((m8 90 (0 + x2)) < z27 → ((inR (x2 + 1)) ∧ (Wq l G false Y_M_over d (QI P) 4 [(0, .inr (.inr 70)), (1, .inl x1), (2, .inl (x2 + 1))] [] m28))) ∧ (¬ ((m8 90 (0 + x2)) < z27) → ((inR (x2 + 1)) ∧ (Wq l G false Y_M_over d (QI P) 4 [(0, .inr (.inr 70)), (1, .inl (bOr x1 (bShl 1 x2))), (2, .inl (x2 + 1))] [] m28)))))))))))) : Wq l G false Y_M_over d (QI P) 4 [(0, .inr (.inr 70)), (1, .inl x1), (2, .inl x2)] [] m := by
  refine Wp.wf (fun hw _ hl hs => ?_)
  have H0 := H hw (hl _ (List.mem_of_getElem? (i := 1) rfl)) (hl _ (List.mem_of_getElem? (i := 2) rfl))
  refine Wp.iload_n 2 2 d_M_over_4 rfl rfl ?_
  refine Wp.aload_n 0 0 d_M_over_5 rfl rfl ?_
  obtain ⟨e1, P2, hd3, ho4, H5⟩ := H0
  refine Wq.VI (st := [.inl x2]) [] d_M_over_6 k_M_lots ml_M_338 rfl rfl rfl (fun h => by cases h) (Nat.le_of_ble_eq_true rfl) hd3 ho4 (fun z7 m8 hp9 hz10 hw11 => ?_)
  have H6 := H5 z7 m8 hp9 hz10 hw11
  obtain ⟨H13, H14⟩ := H6
  refine Wp.icmp_ge 40 d_M_over_9 (by decide) (fun c12 => ?_) (fun c12 => ?_)
  · have H15 := H13 c12
    refine Wp.iload_n 1 1 d_M_over_40 rfl rfl ?_
    exact Wq.iret d_M_over_41 rfl H15
  · have H16 := H14 c12
    refine Wp.aload_n 0 0 d_M_over_12 rfl rfl ?_
    refine Wp.getP 90 d_M_over_13 fl_M_73 rfl rfl rfl ?_
    refine Wp.iconst d_M_over_16 (by decide) ?_
    refine Wp.iload_n 2 2 d_M_over_17 rfl rfl ?_
    obtain ⟨s17, H18⟩ := H16
    refine Wp.iadd d_M_over_18 s17 ?_
    obtain ⟨s19, H20⟩ := H18
    refine Wp.iald d_M_over_19 rfl (Or.inl rfl) s19.1 s19.2 ?_
    refine Wp.aload_n 0 0 d_M_over_20 rfl rfl ?_
    refine Wp.iload_n 2 2 d_M_over_21 rfl rfl ?_
    obtain ⟨e21, P22, hd23, ho24, H25⟩ := H20
    refine Wq.VI (st := [.inl (m8 90 (0 + x2))]) [.inl x2] d_M_over_22 k_M_brimOf ml_M_328 rfl rfl rfl (fun h => by cases h) (Nat.le_of_ble_eq_true rfl) hd23 ho24 (fun z27 m28 hp29 hz30 hw31 => ?_)
    have H26 := H25 z27 m28 hp29 hz30 hw31
    obtain ⟨H33, H34⟩ := H26
    refine Wp.icmp_lt 34 d_M_over_25 (by decide) (fun c32 => ?_) (fun c32 => ?_)
    · have H35 := H33 c32
      obtain ⟨s37, H38⟩ := H35
      refine Wp.iinc 2 2 [(0, .inr (.inr 70)), (1, .inl x1), (2, .inl (x2 + 1))] d_M_over_34 rfl s37 (by decide) rfl ?_
      refine Wp.goto 4 d_M_over_37 (by decide) ?_
      exact H38
    · have H36 := H34 c32
      refine Wp.iload_n 1 1 d_M_over_28 rfl rfl ?_
      refine Wp.iconst d_M_over_29 (by decide) ?_
      refine Wp.iload_n 2 2 d_M_over_30 rfl rfl ?_
      refine Wp.ishl d_M_over_31 ?_
      refine Wp.ior d_M_over_32 ?_
      refine Wp.istore_n 1 [(0, .inr (.inr 70)), (1, .inl (bOr x1 (bShl 1 x2))), (2, .inl x2)] d_M_over_33 rfl (by decide) rfl ?_
      obtain ⟨s39, H40⟩ := H36
      refine Wp.iinc 2 2 [(0, .inr (.inr 70)), (1, .inl (bOr x1 (bShl 1 x2))), (2, .inl (x2 + 1))] d_M_over_34 rfl s39 (by decide) rfl ?_
      refine Wp.goto 4 d_M_over_37 (by decide) ?_
      exact H40
theorem d_M_rest_0 : decode Y_M_rest.2.1 0 = .ok (.aload_n 0, 1) := by decide +kernel
theorem d_M_rest_1 : decode Y_M_rest.2.1 1 = .ok (.invokevirtual 411, 3) := by decide +kernel
theorem d_M_rest_4 : decode Y_M_rest.2.1 4 = .ok (.aload_n 0, 1) := by decide +kernel
theorem d_M_rest_5 : decode Y_M_rest.2.1 5 = .ok (.iload_n 1, 1) := by decide +kernel
theorem d_M_rest_6 : decode Y_M_rest.2.1 6 = .ok (.invokevirtual 405, 3) := by decide +kernel
theorem d_M_rest_9 : decode Y_M_rest.2.1 9 = .ok (.ifCond .eq 12, 3) := by decide +kernel
theorem d_M_rest_12 : decode Y_M_rest.2.1 12 = .ok (.aload_n 0, 1) := by decide +kernel
theorem d_M_rest_13 : decode Y_M_rest.2.1 13 = .ok (.getfield 82, 3) := by decide +kernel
theorem d_M_rest_16 : decode Y_M_rest.2.1 16 = .ok (.iload_n 1, 1) := by decide +kernel
theorem d_M_rest_17 : decode Y_M_rest.2.1 17 = .ok (.iaload, 1) := by decide +kernel
theorem d_M_rest_18 : decode Y_M_rest.2.1 18 = .ok (.goto 4, 3) := by decide +kernel
theorem d_M_rest_21 : decode Y_M_rest.2.1 21 = .ok (.iconst (-1), 1) := by decide +kernel
theorem d_M_rest_22 : decode Y_M_rest.2.1 22 = .ok (.ireturn, 1) := by decide +kernel
theorem e_M_rest {l : Launch} {G : GT} {d : Nat} {P : Int → MM → Prop} {m : MM} (x1 : Int)  (H : wfM m → inR x1 → ∃ (e1 : Nat) (P2 : MM → Prop), e1 < d ∧ CV l G Y_M_layRest e1 [.inr (.inr 70)] m P2 ∧ (∀ m8, P2 m8 → wfM m8 → (∃ (e12 : Nat) (P13 : Int → MM → Prop), e12 < d ∧ CI l G Y_M_isPlate e12 [.inr (.inr 70), .inl x1] m8 P13 ∧ (∀ z18 m19, P13 z18 m19 → inR z18 → wfM m19 → ((z18 = 0 → (P (-1) m19)) ∧ (¬ (z18 = 0) → ((0 ≤ x1 ∧ x1 < (5 : Int)) ∧ (P (m19 93 x1) m19)))))))) : CI l G Y_M_rest d [.inr (.inr 70), .inl x1] m P := by
  refine CI.of [(0, .inr (.inr 70)), (1, .inl x1)] k_M_rest.1 (Nat.le_of_ble_eq_true rfl) rfl (Wp.wf (fun hw _ hl hs => ?_))
  have H0 := H hw (hl _ (List.mem_of_getElem? (i := 1) rfl))
  refine Wp.aload_n 0 0 d_M_rest_0 rfl rfl ?_
  obtain ⟨e1, P2, hd3, ho4, H5⟩ := H0
  refine Wq.VV (st := []) [] d_M_rest_1 k_M_layRest ml_M_411 rfl rfl rfl (fun h => by cases h) (Nat.le_of_ble_eq_true rfl) hd3 ho4 (fun m8 hp9 hw11 => ?_)
  have H6 := H5 m8 hp9 hw11
  refine Wp.aload_n 0 0 d_M_rest_4 rfl rfl ?_
  refine Wp.iload_n 1 1 d_M_rest_5 rfl rfl ?_
  obtain ⟨e12, P13, hd14, ho15, H16⟩ := H6
  refine Wq.VI (st := []) [.inl x1] d_M_rest_6 k_M_isPlate ml_M_405 rfl rfl rfl (fun h => by cases h) (Nat.le_of_ble_eq_true rfl) hd14 ho15 (fun z18 m19 hp20 hz21 hw22 => ?_)
  have H17 := H16 z18 m19 hp20 hz21 hw22
  obtain ⟨H24, H25⟩ := H17
  refine Wp.if_eq 21 d_M_rest_9 (by decide) (fun c23 => ?_) (fun c23 => ?_)
  · have H26 := H24 c23
    refine Wp.iconst d_M_rest_21 (by decide) ?_
    exact Wq.iret d_M_rest_22 rfl H26
  · have H27 := H25 c23
    refine Wp.aload_n 0 0 d_M_rest_12 rfl rfl ?_
    refine Wp.getP 93 d_M_rest_13 fl_M_82 rfl rfl rfl ?_
    refine Wp.iload_n 1 1 d_M_rest_16 rfl rfl ?_
    obtain ⟨s28, H29⟩ := H27
    refine Wp.iald d_M_rest_17 rfl (Or.inl rfl) s28.1 s28.2 ?_
    refine Wp.goto 22 d_M_rest_18 (by decide) ?_
    exact Wq.iret d_M_rest_22 rfl H29
theorem d_M_layRest_0 : decode Y_M_layRest.2.1 0 = .ok (.aload_n 0, 1) := by decide +kernel
theorem d_M_layRest_1 : decode Y_M_layRest.2.1 1 = .ok (.invokevirtual 378, 3) := by decide +kernel
theorem d_M_layRest_4 : decode Y_M_layRest.2.1 4 = .ok (.aload_n 0, 1) := by decide +kernel
theorem d_M_layRest_5 : decode Y_M_layRest.2.1 5 = .ok (.invokevirtual 381, 3) := by decide +kernel
theorem d_M_layRest_8 : decode Y_M_layRest.2.1 8 = .ok (.istore_n 1, 1) := by decide +kernel
theorem d_M_layRest_9 : decode Y_M_layRest.2.1 9 = .ok (.return_, 1) := by decide +kernel
theorem e_M_layRest {l : Launch} {G : GT} {d : Nat} {P : MM → Prop} {m : MM}   (H : wfM m → ∃ (e1 : Nat) (P2 : MM → Prop), e1 < d ∧ CV l G Y_M_layNow e1 [.inr (.inr 70)] m P2 ∧ (∀ m8, P2 m8 → wfM m8 → (∃ (e12 : Nat) (P13 : Int → MM → Prop), e12 < d ∧ CI l G Y_M_settleHeap e12 [.inr (.inr 70)] m8 P13 ∧ (∀ z18 m19, P13 z18 m19 → inR z18 → wfM m19 → (P m19))))) : CV l G Y_M_layRest d [.inr (.inr 70)] m P := by
  refine CV.of [(0, .inr (.inr 70))] k_M_layRest.1 (Nat.le_of_ble_eq_true rfl) rfl (Wp.wf (fun hw _ hl hs => ?_))
  have H0 := H hw
  refine Wp.aload_n 0 0 d_M_layRest_0 rfl rfl ?_
  obtain ⟨e1, P2, hd3, ho4, H5⟩ := H0
  refine Wq.VV (st := []) [] d_M_layRest_1 k_M_layNow ml_M_378 rfl rfl rfl (fun h => by cases h) (Nat.le_of_ble_eq_true rfl) hd3 ho4 (fun m8 hp9 hw11 => ?_)
  have H6 := H5 m8 hp9 hw11
  refine Wp.aload_n 0 0 d_M_layRest_4 rfl rfl ?_
  obtain ⟨e12, P13, hd14, ho15, H16⟩ := H6
  refine Wq.VI (st := []) [] d_M_layRest_5 k_M_settleHeap ml_M_381 rfl rfl rfl (fun h => by cases h) (Nat.le_of_ble_eq_true rfl) hd14 ho15 (fun z18 m19 hp20 hz21 hw22 => ?_)
  have H17 := H16 z18 m19 hp20 hz21 hw22
  refine Wp.istore_n 1 [(0, .inr (.inr 70)), (1, .inl z18)] d_M_layRest_8 rfl (by decide) rfl ?_
  exact Wq.vret d_M_layRest_9 rfl H17
theorem d_M_layNow_0 : decode Y_M_layNow.2.1 0 = .ok (.iconst 0, 1) := by decide +kernel
theorem d_M_layNow_1 : decode Y_M_layNow.2.1 1 = .ok (.istore_n 1, 1) := by decide +kernel
theorem d_M_layNow_2 : decode Y_M_layNow.2.1 2 = .ok (.iload_n 1, 1) := by decide +kernel
theorem d_M_layNow_3 : decode Y_M_layNow.2.1 3 = .ok (.iconst 5, 1) := by decide +kernel
theorem d_M_layNow_4 : decode Y_M_layNow.2.1 4 = .ok (.if_icmp .ge 35, 3) := by decide +kernel
theorem d_M_layNow_7 : decode Y_M_layNow.2.1 7 = .ok (.aload_n 0, 1) := by decide +kernel
theorem d_M_layNow_8 : decode Y_M_layNow.2.1 8 = .ok (.getfield 82, 3) := by decide +kernel
theorem d_M_layNow_11 : decode Y_M_layNow.2.1 11 = .ok (.iload_n 1, 1) := by decide +kernel
theorem d_M_layNow_12 : decode Y_M_layNow.2.1 12 = .ok (.iload_n 1, 1) := by decide +kernel
theorem d_M_layNow_13 : decode Y_M_layNow.2.1 13 = .ok (.aload_n 0, 1) := by decide +kernel
theorem d_M_layNow_14 : decode Y_M_layNow.2.1 14 = .ok (.invokevirtual 338, 3) := by decide +kernel
theorem d_M_layNow_17 : decode Y_M_layNow.2.1 17 = .ok (.if_icmp .ge 14, 3) := by decide +kernel
theorem d_M_layNow_20 : decode Y_M_layNow.2.1 20 = .ok (.aload_n 0, 1) := by decide +kernel
theorem d_M_layNow_21 : decode Y_M_layNow.2.1 21 = .ok (.getfield 73, 3) := by decide +kernel
theorem d_M_layNow_24 : decode Y_M_layNow.2.1 24 = .ok (.iconst 0, 1) := by decide +kernel
theorem d_M_layNow_25 : decode Y_M_layNow.2.1 25 = .ok (.iload_n 1, 1) := by decide +kernel
theorem d_M_layNow_26 : decode Y_M_layNow.2.1 26 = .ok (.iadd, 1) := by decide +kernel
theorem d_M_layNow_27 : decode Y_M_layNow.2.1 27 = .ok (.iaload, 1) := by decide +kernel
theorem d_M_layNow_28 : decode Y_M_layNow.2.1 28 = .ok (.goto 4, 3) := by decide +kernel
theorem d_M_layNow_31 : decode Y_M_layNow.2.1 31 = .ok (.iconst 0, 1) := by decide +kernel
theorem d_M_layNow_32 : decode Y_M_layNow.2.1 32 = .ok (.iastore, 1) := by decide +kernel
theorem d_M_layNow_33 : decode Y_M_layNow.2.1 33 = .ok (.iinc 1 1, 3) := by decide +kernel
theorem d_M_layNow_36 : decode Y_M_layNow.2.1 36 = .ok (.goto (-34), 3) := by decide +kernel
theorem d_M_layNow_39 : decode Y_M_layNow.2.1 39 = .ok (.return_, 1) := by decide +kernel
theorem e_M_layNow {l : Launch} {G : GT} {d : Nat} {P : MM → Prop} {m : MM}   (H : wfM m → Wq l G false Y_M_layNow d (QV P) 2 [(0, .inr (.inr 70)), (1, .inl 0)] [] m) : CV l G Y_M_layNow d [.inr (.inr 70)] m P := by
  refine CV.of [(0, .inr (.inr 70))] k_M_layNow.1 (Nat.le_of_ble_eq_true rfl) rfl (Wp.wf (fun hw _ hl hs => ?_))
  have H0 := H hw
  refine Wp.iconst d_M_layNow_0 (by decide) ?_
  refine Wp.istore_n 1 [(0, .inr (.inr 70)), (1, .inl 0)] d_M_layNow_1 rfl (by decide) rfl ?_
  exact H0
theorem s_M_layNow_2 {l : Launch} {G : GT} {d : Nat} {P : MM → Prop} {m : MM} (x1 : Int)  (H : wfM m → inR x1 → (x1 ≥ 5 → (P m)) ∧ (¬ (x1 ≥ 5) → (∃ (e6 : Nat) (P7 : Int → MM → Prop), e6 < d ∧ CI l G Y_M_lots e6 [.inr (.inr 70)] m P7 ∧ (∀ z12 m13, P7 z12 m13 → inR z12 → wfM m13 → ((x1 ≥ z12 → ((0 ≤ x1 ∧ x1 < (5 : Int)) ∧ (∀ m22, m22 = up m13 93 x1 0 → ((inR (x1 + 1)) ∧ (Wq l G false Y_M_layNow d (QV P) 2 [(0, .inr (.inr 70)), (1, .inl (x1 + 1))] [] m22))))) ∧ (¬ (x1 ≥ z12) → ((inR (0 + x1)) ∧ ((0 ≤ (0 + x1) ∧ (0 + x1) < (8 : Int)) ∧ ((0 ≤ x1 ∧ x1 < (5 : Int)) ∧ (∀ m35, m35 = up m13 93 x1 (m13 90 (0 + x1)) → ((inR (x1 + 1)) ∧ (Wq l G false Y_M_layNow d (QV P) 2 [(0, .inr (.inr 70)), (1, .inl (x1 + 1))] [] m35)))))))))))) : Wq l G false Y_M_layNow d (QV P) 2 [(0, .inr (.inr 70)), (1, .inl x1)] [] m := by
  refine Wp.wf (fun hw _ hl hs => ?_)
  have H0 := H hw (hl _ (List.mem_of_getElem? (i := 1) rfl))
  refine Wp.iload_n 1 1 d_M_layNow_2 rfl rfl ?_
  refine Wp.iconst d_M_layNow_3 (by decide) ?_
  obtain ⟨H2, H3⟩ := H0
  refine Wp.icmp_ge 39 d_M_layNow_4 (by decide) (fun c1 => ?_) (fun c1 => ?_)
  · have H4 := H2 c1
    exact Wq.vret d_M_layNow_39 rfl H4
  · have H5 := H3 c1
    refine Wp.aload_n 0 0 d_M_layNow_7 rfl rfl ?_
    refine Wp.getP 93 d_M_layNow_8 fl_M_82 rfl rfl rfl ?_
    refine Wp.iload_n 1 1 d_M_layNow_11 rfl rfl ?_
    refine Wp.iload_n 1 1 d_M_layNow_12 rfl rfl ?_
    refine Wp.aload_n 0 0 d_M_layNow_13 rfl rfl ?_
    obtain ⟨e6, P7, hd8, ho9, H10⟩ := H5
    refine Wq.VI (st := [.inl x1, .inl x1, .inr (.inr 93)]) [] d_M_layNow_14 k_M_lots ml_M_338 rfl rfl rfl (fun h => by cases h) (Nat.le_of_ble_eq_true rfl) hd8 ho9 (fun z12 m13 hp14 hz15 hw16 => ?_)
    have H11 := H10 z12 m13 hp14 hz15 hw16
    obtain ⟨H18, H19⟩ := H11
    refine Wp.icmp_ge 31 d_M_layNow_17 (by decide) (fun c17 => ?_) (fun c17 => ?_)
    · have H20 := H18 c17
      refine Wp.iconst d_M_layNow_31 (by decide) ?_
      obtain ⟨s29, H30⟩ := H20
      refine Wq.iast d_M_layNow_32 rfl s29.1 s29.2 (fun m22 hm23 => ?_)
      have H24 := H30 m22 hm23
      obtain ⟨s27, H28⟩ := H24
      refine Wp.iinc 1 1 [(0, .inr (.inr 70)), (1, .inl (x1 + 1))] d_M_layNow_33 rfl s27 (by decide) rfl ?_
      refine Wp.goto 2 d_M_layNow_36 (by decide) ?_
      exact H28
    · have H21 := H19 c17
      refine Wp.aload_n 0 0 d_M_layNow_20 rfl rfl ?_
      refine Wp.getP 90 d_M_layNow_21 fl_M_73 rfl rfl rfl ?_
      refine Wp.iconst d_M_layNow_24 (by decide) ?_
      refine Wp.iload_n 1 1 d_M_layNow_25 rfl rfl ?_
      obtain ⟨s31, H32⟩ := H21
      refine Wp.iadd d_M_layNow_26 s31 ?_
      obtain ⟨s33, H34⟩ := H32
      refine Wp.iald d_M_layNow_27 rfl (Or.inl rfl) s33.1 s33.2 ?_
      refine Wp.goto 32 d_M_layNow_28 (by decide) ?_
      obtain ⟨s42, H43⟩ := H34
      refine Wq.iast d_M_layNow_32 rfl s42.1 s42.2 (fun m35 hm36 => ?_)
      have H37 := H43 m35 hm36
      obtain ⟨s40, H41⟩ := H37
      refine Wp.iinc 1 1 [(0, .inr (.inr 70)), (1, .inl (x1 + 1))] d_M_layNow_33 rfl s40 (by decide) rfl ?_
      refine Wp.goto 2 d_M_layNow_36 (by decide) ?_
      exact H41
theorem d_M_often_0 : decode Y_M_often.2.1 0 = .ok (.aload_n 0, 1) := by decide +kernel
theorem d_M_often_1 : decode Y_M_often.2.1 1 = .ok (.invokevirtual 411, 3) := by decide +kernel
theorem d_M_often_4 : decode Y_M_often.2.1 4 = .ok (.aload_n 0, 1) := by decide +kernel
theorem d_M_often_5 : decode Y_M_often.2.1 5 = .ok (.iload_n 1, 1) := by decide +kernel
theorem d_M_often_6 : decode Y_M_often.2.1 6 = .ok (.invokevirtual 405, 3) := by decide +kernel
theorem d_M_often_9 : decode Y_M_often.2.1 9 = .ok (.ifCond .eq 12, 3) := by decide +kernel
theorem d_M_often_12 : decode Y_M_often.2.1 12 = .ok (.aload_n 0, 1) := by decide +kernel
theorem d_M_often_13 : decode Y_M_often.2.1 13 = .ok (.getfield 85, 3) := by decide +kernel
theorem d_M_often_16 : decode Y_M_often.2.1 16 = .ok (.iload_n 1, 1) := by decide +kernel
theorem d_M_often_17 : decode Y_M_often.2.1 17 = .ok (.iaload, 1) := by decide +kernel
theorem d_M_often_18 : decode Y_M_often.2.1 18 = .ok (.goto 4, 3) := by decide +kernel
theorem d_M_often_21 : decode Y_M_often.2.1 21 = .ok (.iconst (-1), 1) := by decide +kernel
theorem d_M_often_22 : decode Y_M_often.2.1 22 = .ok (.ireturn, 1) := by decide +kernel
theorem e_M_often {l : Launch} {G : GT} {d : Nat} {P : Int → MM → Prop} {m : MM} (x1 : Int)  (H : wfM m → inR x1 → ∃ (e1 : Nat) (P2 : MM → Prop), e1 < d ∧ CV l G Y_M_layRest e1 [.inr (.inr 70)] m P2 ∧ (∀ m8, P2 m8 → wfM m8 → (∃ (e12 : Nat) (P13 : Int → MM → Prop), e12 < d ∧ CI l G Y_M_isPlate e12 [.inr (.inr 70), .inl x1] m8 P13 ∧ (∀ z18 m19, P13 z18 m19 → inR z18 → wfM m19 → ((z18 = 0 → (P (-1) m19)) ∧ (¬ (z18 = 0) → ((0 ≤ x1 ∧ x1 < (5 : Int)) ∧ (P (m19 94 x1) m19)))))))) : CI l G Y_M_often d [.inr (.inr 70), .inl x1] m P := by
  refine CI.of [(0, .inr (.inr 70)), (1, .inl x1)] k_M_often.1 (Nat.le_of_ble_eq_true rfl) rfl (Wp.wf (fun hw _ hl hs => ?_))
  have H0 := H hw (hl _ (List.mem_of_getElem? (i := 1) rfl))
  refine Wp.aload_n 0 0 d_M_often_0 rfl rfl ?_
  obtain ⟨e1, P2, hd3, ho4, H5⟩ := H0
  refine Wq.VV (st := []) [] d_M_often_1 k_M_layRest ml_M_411 rfl rfl rfl (fun h => by cases h) (Nat.le_of_ble_eq_true rfl) hd3 ho4 (fun m8 hp9 hw11 => ?_)
  have H6 := H5 m8 hp9 hw11
  refine Wp.aload_n 0 0 d_M_often_4 rfl rfl ?_
  refine Wp.iload_n 1 1 d_M_often_5 rfl rfl ?_
  obtain ⟨e12, P13, hd14, ho15, H16⟩ := H6
  refine Wq.VI (st := []) [.inl x1] d_M_often_6 k_M_isPlate ml_M_405 rfl rfl rfl (fun h => by cases h) (Nat.le_of_ble_eq_true rfl) hd14 ho15 (fun z18 m19 hp20 hz21 hw22 => ?_)
  have H17 := H16 z18 m19 hp20 hz21 hw22
  obtain ⟨H24, H25⟩ := H17
  refine Wp.if_eq 21 d_M_often_9 (by decide) (fun c23 => ?_) (fun c23 => ?_)
  · have H26 := H24 c23
    refine Wp.iconst d_M_often_21 (by decide) ?_
    exact Wq.iret d_M_often_22 rfl H26
  · have H27 := H25 c23
    refine Wp.aload_n 0 0 d_M_often_12 rfl rfl ?_
    refine Wp.getP 94 d_M_often_13 fl_M_85 rfl rfl rfl ?_
    refine Wp.iload_n 1 1 d_M_often_16 rfl rfl ?_
    obtain ⟨s28, H29⟩ := H27
    refine Wp.iald d_M_often_17 rfl (Or.inl rfl) s28.1 s28.2 ?_
    refine Wp.goto 22 d_M_often_18 (by decide) ?_
    exact Wq.iret d_M_often_22 rfl H29
theorem d_M_spilt_0 : decode Y_M_spilt.2.1 0 = .ok (.aload_n 0, 1) := by decide +kernel
theorem d_M_spilt_1 : decode Y_M_spilt.2.1 1 = .ok (.invokevirtual 411, 3) := by decide +kernel
theorem d_M_spilt_4 : decode Y_M_spilt.2.1 4 = .ok (.aload_n 0, 1) := by decide +kernel
theorem d_M_spilt_5 : decode Y_M_spilt.2.1 5 = .ok (.getfield 372, 3) := by decide +kernel
theorem d_M_spilt_8 : decode Y_M_spilt.2.1 8 = .ok (.ireturn, 1) := by decide +kernel
theorem e_M_spilt {l : Launch} {G : GT} {d : Nat} {P : Int → MM → Prop} {m : MM}   (H : wfM m → ∃ (e1 : Nat) (P2 : MM → Prop), e1 < d ∧ CV l G Y_M_layRest e1 [.inr (.inr 70)] m P2 ∧ (∀ m8, P2 m8 → wfM m8 → (P (m8 70 41) m8))) : CI l G Y_M_spilt d [.inr (.inr 70)] m P := by
  refine CI.of [(0, .inr (.inr 70))] k_M_spilt.1 (Nat.le_of_ble_eq_true rfl) rfl (Wp.wf (fun hw _ hl hs => ?_))
  have H0 := H hw
  refine Wp.aload_n 0 0 d_M_spilt_0 rfl rfl ?_
  obtain ⟨e1, P2, hd3, ho4, H5⟩ := H0
  refine Wq.VV (st := []) [] d_M_spilt_1 k_M_layRest ml_M_411 rfl rfl rfl (fun h => by cases h) (Nat.le_of_ble_eq_true rfl) hd3 ho4 (fun m8 hp9 hw11 => ?_)
  have H6 := H5 m8 hp9 hw11
  refine Wp.aload_n 0 0 d_M_spilt_4 rfl rfl ?_
  refine Wq.getI 41 rfl d_M_spilt_5 fl_M_372 rfl (Or.inl rfl) ?_
  exact Wq.iret d_M_spilt_8 rfl H6
theorem d_M_day_0 : decode Y_M_day.2.1 0 = .ok (.aload_n 0, 1) := by decide +kernel
theorem d_M_day_1 : decode Y_M_day.2.1 1 = .ok (.getfield 73, 3) := by decide +kernel
theorem d_M_day_4 : decode Y_M_day.2.1 4 = .ok (.bipush 6, 2) := by decide +kernel
theorem d_M_day_6 : decode Y_M_day.2.1 6 = .ok (.iaload, 1) := by decide +kernel
theorem d_M_day_7 : decode Y_M_day.2.1 7 = .ok (.sipush 999, 3) := by decide +kernel
theorem d_M_day_10 : decode Y_M_day.2.1 10 = .ok (.if_icmp .ne 5, 3) := by decide +kernel
theorem d_M_day_13 : decode Y_M_day.2.1 13 = .ok (.iconst (-1), 1) := by decide +kernel
theorem d_M_day_14 : decode Y_M_day.2.1 14 = .ok (.ireturn, 1) := by decide +kernel
theorem d_M_day_15 : decode Y_M_day.2.1 15 = .ok (.aload_n 0, 1) := by decide +kernel
theorem d_M_day_16 : decode Y_M_day.2.1 16 = .ok (.invokevirtual 414, 3) := by decide +kernel
theorem d_M_day_19 : decode Y_M_day.2.1 19 = .ok (.aload_n 0, 1) := by decide +kernel
theorem d_M_day_20 : decode Y_M_day.2.1 20 = .ok (.iconst 1, 1) := by decide +kernel
theorem d_M_day_21 : decode Y_M_day.2.1 21 = .ok (.invokevirtual 417, 3) := by decide +kernel
theorem d_M_day_24 : decode Y_M_day.2.1 24 = .ok (.ireturn, 1) := by decide +kernel
theorem e_M_day {l : Launch} {G : GT} {d : Nat} {P : Int → MM → Prop} {m : MM}   (H : wfM m → ((m 90 6) ≠ 999 → (∃ (e6 : Nat) (P7 : MM → Prop), e6 < d ∧ CV l G Y_M_keepAct e6 [.inr (.inr 70)] m P7 ∧ (∀ m13, P7 m13 → wfM m13 → (∃ (e17 : Nat) (P18 : Int → MM → Prop), e17 < d ∧ CI l G Y_M_goDay e17 [.inr (.inr 70), .inl 1] m13 P18 ∧ (∀ z23 m24, P18 z23 m24 → inR z23 → wfM m24 → (P z23 m24)))))) ∧ (¬ ((m 90 6) ≠ 999) → (P (-1) m))) : CI l G Y_M_day d [.inr (.inr 70)] m P := by
  refine CI.of [(0, .inr (.inr 70))] k_M_day.1 (Nat.le_of_ble_eq_true rfl) rfl (Wp.wf (fun hw _ hl hs => ?_))
  have H0 := H hw
  refine Wp.aload_n 0 0 d_M_day_0 rfl rfl ?_
  refine Wp.getP 90 d_M_day_1 fl_M_73 rfl rfl rfl ?_
  refine Wp.bipush d_M_day_4 (by decide) (by decide) ?_
  refine Wp.iald d_M_day_6 rfl (Or.inl rfl) (by decide) (by decide) ?_
  refine Wp.sipush d_M_day_7 (by decide) (by decide) ?_
  obtain ⟨H2, H3⟩ := H0
  refine Wp.icmp_ne 15 d_M_day_10 (by decide) (fun c1 => ?_) (fun c1 => ?_)
  · have H4 := H2 c1
    refine Wp.aload_n 0 0 d_M_day_15 rfl rfl ?_
    obtain ⟨e6, P7, hd8, ho9, H10⟩ := H4
    refine Wq.VV (st := []) [] d_M_day_16 k_M_keepAct ml_M_414 rfl rfl rfl (fun h => by cases h) (Nat.le_of_ble_eq_true rfl) hd8 ho9 (fun m13 hp14 hw16 => ?_)
    have H11 := H10 m13 hp14 hw16
    refine Wp.aload_n 0 0 d_M_day_19 rfl rfl ?_
    refine Wp.iconst d_M_day_20 (by decide) ?_
    obtain ⟨e17, P18, hd19, ho20, H21⟩ := H11
    refine Wq.VI (st := []) [.inl 1] d_M_day_21 k_M_goDay ml_M_417 rfl rfl rfl (fun h => by cases h) (Nat.le_of_ble_eq_true rfl) hd19 ho20 (fun z23 m24 hp25 hz26 hw27 => ?_)
    have H22 := H21 z23 m24 hp25 hz26 hw27
    exact Wq.iret d_M_day_24 rfl H22
  · have H5 := H3 c1
    refine Wp.iconst d_M_day_13 (by decide) ?_
    exact Wq.iret d_M_day_14 rfl H5
theorem d_M_keepAct_0 : decode Y_M_keepAct.2.1 0 = .ok (.aload_n 0, 1) := by decide +kernel
theorem d_M_keepAct_1 : decode Y_M_keepAct.2.1 1 = .ok (.getfield 360, 3) := by decide +kernel
theorem d_M_keepAct_4 : decode Y_M_keepAct.2.1 4 = .ok (.bipush 40, 2) := by decide +kernel
theorem d_M_keepAct_6 : decode Y_M_keepAct.2.1 6 = .ok (.if_icmp .ne 43, 3) := by decide +kernel
theorem d_M_keepAct_9 : decode Y_M_keepAct.2.1 9 = .ok (.iconst 0, 1) := by decide +kernel
theorem d_M_keepAct_10 : decode Y_M_keepAct.2.1 10 = .ok (.istore_n 1, 1) := by decide +kernel
theorem d_M_keepAct_11 : decode Y_M_keepAct.2.1 11 = .ok (.iload_n 1, 1) := by decide +kernel
theorem d_M_keepAct_12 : decode Y_M_keepAct.2.1 12 = .ok (.sipush 320, 3) := by decide +kernel
theorem d_M_keepAct_15 : decode Y_M_keepAct.2.1 15 = .ok (.if_icmp .ge 24, 3) := by decide +kernel
theorem d_M_keepAct_18 : decode Y_M_keepAct.2.1 18 = .ok (.aload_n 0, 1) := by decide +kernel
theorem d_M_keepAct_19 : decode Y_M_keepAct.2.1 19 = .ok (.getfield 91, 3) := by decide +kernel
theorem d_M_keepAct_22 : decode Y_M_keepAct.2.1 22 = .ok (.iload_n 1, 1) := by decide +kernel
theorem d_M_keepAct_23 : decode Y_M_keepAct.2.1 23 = .ok (.aload_n 0, 1) := by decide +kernel
theorem d_M_keepAct_24 : decode Y_M_keepAct.2.1 24 = .ok (.getfield 91, 3) := by decide +kernel
theorem d_M_keepAct_27 : decode Y_M_keepAct.2.1 27 = .ok (.iload_n 1, 1) := by decide +kernel
theorem d_M_keepAct_28 : decode Y_M_keepAct.2.1 28 = .ok (.bipush 8, 2) := by decide +kernel
theorem d_M_keepAct_30 : decode Y_M_keepAct.2.1 30 = .ok (.iadd, 1) := by decide +kernel
theorem d_M_keepAct_31 : decode Y_M_keepAct.2.1 31 = .ok (.iaload, 1) := by decide +kernel
theorem d_M_keepAct_32 : decode Y_M_keepAct.2.1 32 = .ok (.iastore, 1) := by decide +kernel
theorem d_M_keepAct_33 : decode Y_M_keepAct.2.1 33 = .ok (.iinc 1 1, 3) := by decide +kernel
theorem d_M_keepAct_36 : decode Y_M_keepAct.2.1 36 = .ok (.goto (-25), 3) := by decide +kernel
theorem d_M_keepAct_39 : decode Y_M_keepAct.2.1 39 = .ok (.aload_n 0, 1) := by decide +kernel
theorem d_M_keepAct_40 : decode Y_M_keepAct.2.1 40 = .ok (.dup, 1) := by decide +kernel
theorem d_M_keepAct_41 : decode Y_M_keepAct.2.1 41 = .ok (.getfield 360, 3) := by decide +kernel
theorem d_M_keepAct_44 : decode Y_M_keepAct.2.1 44 = .ok (.iconst 1, 1) := by decide +kernel
theorem d_M_keepAct_45 : decode Y_M_keepAct.2.1 45 = .ok (.isub, 1) := by decide +kernel
theorem d_M_keepAct_46 : decode Y_M_keepAct.2.1 46 = .ok (.putfield 360, 3) := by decide +kernel
theorem d_M_keepAct_49 : decode Y_M_keepAct.2.1 49 = .ok (.iconst 0, 1) := by decide +kernel
theorem d_M_keepAct_50 : decode Y_M_keepAct.2.1 50 = .ok (.istore_n 1, 1) := by decide +kernel
theorem d_M_keepAct_51 : decode Y_M_keepAct.2.1 51 = .ok (.iload_n 1, 1) := by decide +kernel
theorem d_M_keepAct_52 : decode Y_M_keepAct.2.1 52 = .ok (.bipush 8, 2) := by decide +kernel
theorem d_M_keepAct_54 : decode Y_M_keepAct.2.1 54 = .ok (.if_icmp .ge 29, 3) := by decide +kernel
theorem d_M_keepAct_57 : decode Y_M_keepAct.2.1 57 = .ok (.aload_n 0, 1) := by decide +kernel
theorem d_M_keepAct_58 : decode Y_M_keepAct.2.1 58 = .ok (.getfield 91, 3) := by decide +kernel
theorem d_M_keepAct_61 : decode Y_M_keepAct.2.1 61 = .ok (.bipush 8, 2) := by decide +kernel
theorem d_M_keepAct_63 : decode Y_M_keepAct.2.1 63 = .ok (.aload_n 0, 1) := by decide +kernel
theorem d_M_keepAct_64 : decode Y_M_keepAct.2.1 64 = .ok (.getfield 360, 3) := by decide +kernel
theorem d_M_keepAct_67 : decode Y_M_keepAct.2.1 67 = .ok (.imul, 1) := by decide +kernel
theorem d_M_keepAct_68 : decode Y_M_keepAct.2.1 68 = .ok (.iload_n 1, 1) := by decide +kernel
theorem d_M_keepAct_69 : decode Y_M_keepAct.2.1 69 = .ok (.iadd, 1) := by decide +kernel
theorem d_M_keepAct_70 : decode Y_M_keepAct.2.1 70 = .ok (.aload_n 0, 1) := by decide +kernel
theorem d_M_keepAct_71 : decode Y_M_keepAct.2.1 71 = .ok (.getfield 73, 3) := by decide +kernel
theorem d_M_keepAct_74 : decode Y_M_keepAct.2.1 74 = .ok (.iload_n 1, 1) := by decide +kernel
theorem d_M_keepAct_75 : decode Y_M_keepAct.2.1 75 = .ok (.iaload, 1) := by decide +kernel
theorem d_M_keepAct_76 : decode Y_M_keepAct.2.1 76 = .ok (.iastore, 1) := by decide +kernel
theorem d_M_keepAct_77 : decode Y_M_keepAct.2.1 77 = .ok (.iinc 1 1, 3) := by decide +kernel
theorem d_M_keepAct_80 : decode Y_M_keepAct.2.1 80 = .ok (.goto (-29), 3) := by decide +kernel
theorem d_M_keepAct_83 : decode Y_M_keepAct.2.1 83 = .ok (.aload_n 0, 1) := by decide +kernel
theorem d_M_keepAct_84 : decode Y_M_keepAct.2.1 84 = .ok (.dup, 1) := by decide +kernel
theorem d_M_keepAct_85 : decode Y_M_keepAct.2.1 85 = .ok (.getfield 360, 3) := by decide +kernel
theorem d_M_keepAct_88 : decode Y_M_keepAct.2.1 88 = .ok (.iconst 1, 1) := by decide +kernel
theorem d_M_keepAct_89 : decode Y_M_keepAct.2.1 89 = .ok (.iadd, 1) := by decide +kernel
theorem d_M_keepAct_90 : decode Y_M_keepAct.2.1 90 = .ok (.putfield 360, 3) := by decide +kernel
theorem d_M_keepAct_93 : decode Y_M_keepAct.2.1 93 = .ok (.aload_n 0, 1) := by decide +kernel
theorem d_M_keepAct_94 : decode Y_M_keepAct.2.1 94 = .ok (.iconst 0, 1) := by decide +kernel
theorem d_M_keepAct_95 : decode Y_M_keepAct.2.1 95 = .ok (.putfield 363, 3) := by decide +kernel
theorem d_M_keepAct_98 : decode Y_M_keepAct.2.1 98 = .ok (.return_, 1) := by decide +kernel
theorem e_M_keepAct {l : Launch} {G : GT} {d : Nat} {P : MM → Prop} {m : MM}   (H : wfM m → ((m 70 45) ≠ 40 → (Wq l G false Y_M_keepAct d (QV P) 51 [(0, .inr (.inr 70)), (1, .inl 0)] [] m)) ∧ (¬ ((m 70 45) ≠ 40) → (Wq l G false Y_M_keepAct d (QV P) 11 [(0, .inr (.inr 70)), (1, .inl 0)] [] m))) : CV l G Y_M_keepAct d [.inr (.inr 70)] m P := by
  refine CV.of [(0, .inr (.inr 70))] k_M_keepAct.1 (Nat.le_of_ble_eq_true rfl) rfl (Wp.wf (fun hw _ hl hs => ?_))
  have H0 := H hw
  refine Wp.aload_n 0 0 d_M_keepAct_0 rfl rfl ?_
  refine Wq.getI 45 rfl d_M_keepAct_1 fl_M_360 rfl (Or.inl rfl) ?_
  refine Wp.bipush d_M_keepAct_4 (by decide) (by decide) ?_
  obtain ⟨H2, H3⟩ := H0
  refine Wp.icmp_ne 49 d_M_keepAct_6 (by decide) (fun c1 => ?_) (fun c1 => ?_)
  · have H4 := H2 c1
    refine Wp.iconst d_M_keepAct_49 (by decide) ?_
    refine Wp.istore_n 1 [(0, .inr (.inr 70)), (1, .inl 0)] d_M_keepAct_50 rfl (by decide) rfl ?_
    exact H4
  · have H5 := H3 c1
    refine Wp.iconst d_M_keepAct_9 (by decide) ?_
    refine Wp.istore_n 1 [(0, .inr (.inr 70)), (1, .inl 0)] d_M_keepAct_10 rfl (by decide) rfl ?_
    exact H5
theorem s_M_keepAct_11 {l : Launch} {G : GT} {d : Nat} {P : MM → Prop} {m : MM} (x1 : Int)  (H : wfM m → inR x1 → (x1 ≥ 320 → ((inR ((m 70 45) - 1)) ∧ (∀ m8, m8 = up m 70 45 ((m 70 45) - 1) → (Wq l G false Y_M_keepAct d (QV P) 51 [(0, .inr (.inr 70)), (1, .inl 0)] [] m8)))) ∧ (¬ (x1 ≥ 320) → ((inR (x1 + 8)) ∧ ((0 ≤ (x1 + 8) ∧ (x1 + 8) < (328 : Int)) ∧ ((0 ≤ x1 ∧ x1 < (328 : Int)) ∧ (∀ m15, m15 = up m 96 x1 (m 96 (x1 + 8)) → ((inR (x1 + 1)) ∧ (Wq l G false Y_M_keepAct d (QV P) 11 [(0, .inr (.inr 70)), (1, .inl (x1 + 1))] [] m15)))))))) : Wq l G false Y_M_keepAct d (QV P) 11 [(0, .inr (.inr 70)), (1, .inl x1)] [] m := by
  refine Wp.wf (fun hw _ hl hs => ?_)
  have H0 := H hw (hl _ (List.mem_of_getElem? (i := 1) rfl))
  refine Wp.iload_n 1 1 d_M_keepAct_11 rfl rfl ?_
  refine Wp.sipush d_M_keepAct_12 (by decide) (by decide) ?_
  obtain ⟨H2, H3⟩ := H0
  refine Wp.icmp_ge 39 d_M_keepAct_15 (by decide) (fun c1 => ?_) (fun c1 => ?_)
  · have H4 := H2 c1
    refine Wp.aload_n 0 0 d_M_keepAct_39 rfl rfl ?_
    refine Wp.dup d_M_keepAct_40 rfl ?_
    refine Wq.getI 45 rfl d_M_keepAct_41 fl_M_360 rfl (Or.inl rfl) ?_
    refine Wp.iconst d_M_keepAct_44 (by decide) ?_
    obtain ⟨s6, H7⟩ := H4
    refine Wp.isub d_M_keepAct_45 s6 ?_
    refine Wq.putI 45 rfl d_M_keepAct_46 fl_M_360 (fun _ _ _ h => by cases h; rfl) rfl rfl rfl (fun m8 hm9 => ?_)
    have H10 := H7 m8 hm9
    refine Wp.iconst d_M_keepAct_49 (by decide) ?_
    refine Wp.istore_n 1 [(0, .inr (.inr 70)), (1, .inl 0)] d_M_keepAct_50 rfl (by decide) rfl ?_
    exact H10
  · have H5 := H3 c1
    refine Wp.aload_n 0 0 d_M_keepAct_18 rfl rfl ?_
    refine Wp.getP 96 d_M_keepAct_19 fl_M_91 rfl rfl rfl ?_
    refine Wp.iload_n 1 1 d_M_keepAct_22 rfl rfl ?_
    refine Wp.aload_n 0 0 d_M_keepAct_23 rfl rfl ?_
    refine Wp.getP 96 d_M_keepAct_24 fl_M_91 rfl rfl rfl ?_
    refine Wp.iload_n 1 1 d_M_keepAct_27 rfl rfl ?_
    refine Wp.bipush d_M_keepAct_28 (by decide) (by decide) ?_
    obtain ⟨s11, H12⟩ := H5
    refine Wp.iadd d_M_keepAct_30 s11 ?_
    obtain ⟨s13, H14⟩ := H12
    refine Wp.iald d_M_keepAct_31 rfl (Or.inl rfl) s13.1 s13.2 ?_
    obtain ⟨s22, H23⟩ := H14
    refine Wq.iast d_M_keepAct_32 rfl s22.1 s22.2 (fun m15 hm16 => ?_)
    have H17 := H23 m15 hm16
    obtain ⟨s20, H21⟩ := H17
    refine Wp.iinc 1 1 [(0, .inr (.inr 70)), (1, .inl (x1 + 1))] d_M_keepAct_33 rfl s20 (by decide) rfl ?_
    refine Wp.goto 11 d_M_keepAct_36 (by decide) ?_
    exact H21
theorem s_M_keepAct_51 {l : Launch} {G : GT} {d : Nat} {P : MM → Prop} {m : MM} (x1 : Int)  (H : wfM m → inR x1 → (x1 ≥ 8 → ((inR ((m 70 45) + 1)) ∧ (∀ m8, m8 = up m 70 45 ((m 70 45) + 1) → (∀ m11, m11 = up m8 70 46 0 → (P m11))))) ∧ (¬ (x1 ≥ 8) → ((inR (8 * (m 70 45))) ∧ ((inR ((8 * (m 70 45)) + x1)) ∧ ((0 ≤ x1 ∧ x1 < (8 : Int)) ∧ ((0 ≤ ((8 * (m 70 45)) + x1) ∧ ((8 * (m 70 45)) + x1) < (328 : Int)) ∧ (∀ m20, m20 = up m 96 ((8 * (m 70 45)) + x1) (m 90 x1) → ((inR (x1 + 1)) ∧ (Wq l G false Y_M_keepAct d (QV P) 51 [(0, .inr (.inr 70)), (1, .inl (x1 + 1))] [] m20))))))))) : Wq l G false Y_M_keepAct d (QV P) 51 [(0, .inr (.inr 70)), (1, .inl x1)] [] m := by
  refine Wp.wf (fun hw _ hl hs => ?_)
  have H0 := H hw (hl _ (List.mem_of_getElem? (i := 1) rfl))
  refine Wp.iload_n 1 1 d_M_keepAct_51 rfl rfl ?_
  refine Wp.bipush d_M_keepAct_52 (by decide) (by decide) ?_
  obtain ⟨H2, H3⟩ := H0
  refine Wp.icmp_ge 83 d_M_keepAct_54 (by decide) (fun c1 => ?_) (fun c1 => ?_)
  · have H4 := H2 c1
    refine Wp.aload_n 0 0 d_M_keepAct_83 rfl rfl ?_
    refine Wp.dup d_M_keepAct_84 rfl ?_
    refine Wq.getI 45 rfl d_M_keepAct_85 fl_M_360 rfl (Or.inl rfl) ?_
    refine Wp.iconst d_M_keepAct_88 (by decide) ?_
    obtain ⟨s6, H7⟩ := H4
    refine Wp.iadd d_M_keepAct_89 s6 ?_
    refine Wq.putI 45 rfl d_M_keepAct_90 fl_M_360 (fun _ _ _ h => by cases h; rfl) rfl rfl rfl (fun m8 hm9 => ?_)
    have H10 := H7 m8 hm9
    refine Wp.aload_n 0 0 d_M_keepAct_93 rfl rfl ?_
    refine Wp.iconst d_M_keepAct_94 (by decide) ?_
    refine Wq.putI 46 rfl d_M_keepAct_95 fl_M_363 (fun _ _ _ h => by cases h; rfl) rfl rfl rfl (fun m11 hm12 => ?_)
    have H13 := H10 m11 hm12
    exact Wq.vret d_M_keepAct_98 rfl H13
  · have H5 := H3 c1
    refine Wp.aload_n 0 0 d_M_keepAct_57 rfl rfl ?_
    refine Wp.getP 96 d_M_keepAct_58 fl_M_91 rfl rfl rfl ?_
    refine Wp.bipush d_M_keepAct_61 (by decide) (by decide) ?_
    refine Wp.aload_n 0 0 d_M_keepAct_63 rfl rfl ?_
    refine Wq.getI 45 rfl d_M_keepAct_64 fl_M_360 rfl (Or.inl rfl) ?_
    obtain ⟨s14, H15⟩ := H5
    refine Wp.imul d_M_keepAct_67 s14 ?_
    refine Wp.iload_n 1 1 d_M_keepAct_68 rfl rfl ?_
    obtain ⟨s16, H17⟩ := H15
    refine Wp.iadd d_M_keepAct_69 s16 ?_
    refine Wp.aload_n 0 0 d_M_keepAct_70 rfl rfl ?_
    refine Wp.getP 90 d_M_keepAct_71 fl_M_73 rfl rfl rfl ?_
    refine Wp.iload_n 1 1 d_M_keepAct_74 rfl rfl ?_
    obtain ⟨s18, H19⟩ := H17
    refine Wp.iald d_M_keepAct_75 rfl (Or.inl rfl) s18.1 s18.2 ?_
    obtain ⟨s27, H28⟩ := H19
    refine Wq.iast d_M_keepAct_76 rfl s27.1 s27.2 (fun m20 hm21 => ?_)
    have H22 := H28 m20 hm21
    obtain ⟨s25, H26⟩ := H22
    refine Wp.iinc 1 1 [(0, .inr (.inr 70)), (1, .inl (x1 + 1))] d_M_keepAct_77 rfl s25 (by decide) rfl ?_
    refine Wp.goto 51 d_M_keepAct_80 (by decide) ?_
    exact H26
theorem d_M_goDay_0 : decode Y_M_goDay.2.1 0 = .ok (.aload_n 0, 1) := by decide +kernel
theorem d_M_goDay_1 : decode Y_M_goDay.2.1 1 = .ok (.invokevirtual 378, 3) := by decide +kernel
theorem d_M_goDay_4 : decode Y_M_goDay.2.1 4 = .ok (.iconst 0, 1) := by decide +kernel
theorem d_M_goDay_5 : decode Y_M_goDay.2.1 5 = .ok (.istore_n 2, 1) := by decide +kernel
theorem d_M_goDay_6 : decode Y_M_goDay.2.1 6 = .ok (.iload_n 2, 1) := by decide +kernel
theorem d_M_goDay_7 : decode Y_M_goDay.2.1 7 = .ok (.aload_n 0, 1) := by decide +kernel
theorem d_M_goDay_8 : decode Y_M_goDay.2.1 8 = .ok (.invokevirtual 338, 3) := by decide +kernel
theorem d_M_goDay_11 : decode Y_M_goDay.2.1 11 = .ok (.if_icmp .ge 68, 3) := by decide +kernel
theorem d_M_goDay_14 : decode Y_M_goDay.2.1 14 = .ok (.aload_n 0, 1) := by decide +kernel
theorem d_M_goDay_15 : decode Y_M_goDay.2.1 15 = .ok (.iload_n 2, 1) := by decide +kernel
theorem d_M_goDay_16 : decode Y_M_goDay.2.1 16 = .ok (.putfield 325, 3) := by decide +kernel
theorem d_M_goDay_19 : decode Y_M_goDay.2.1 19 = .ok (.aload_n 0, 1) := by decide +kernel
theorem d_M_goDay_20 : decode Y_M_goDay.2.1 20 = .ok (.getfield 36, 3) := by decide +kernel
theorem d_M_goDay_23 : decode Y_M_goDay.2.1 23 = .ok (.aload_n 0, 1) := by decide +kernel
theorem d_M_goDay_24 : decode Y_M_goDay.2.1 24 = .ok (.getfield 243, 3) := by decide +kernel
theorem d_M_goDay_27 : decode Y_M_goDay.2.1 27 = .ok (.iaload, 1) := by decide +kernel
theorem d_M_goDay_28 : decode Y_M_goDay.2.1 28 = .ok (.iconst 0, 1) := by decide +kernel
theorem d_M_goDay_29 : decode Y_M_goDay.2.1 29 = .ok (.invokestatic 252, 3) := by decide +kernel
theorem d_M_goDay_32 : decode Y_M_goDay.2.1 32 = .ok (.ifCond .eq 16, 3) := by decide +kernel
theorem d_M_goDay_35 : decode Y_M_goDay.2.1 35 = .ok (.aload_n 0, 1) := by decide +kernel
theorem d_M_goDay_36 : decode Y_M_goDay.2.1 36 = .ok (.invokevirtual 393, 3) := by decide +kernel
theorem d_M_goDay_39 : decode Y_M_goDay.2.1 39 = .ok (.iconst 0, 1) := by decide +kernel
theorem d_M_goDay_40 : decode Y_M_goDay.2.1 40 = .ok (.bipush 20, 2) := by decide +kernel
theorem d_M_goDay_42 : decode Y_M_goDay.2.1 42 = .ok (.invokestatic 396, 3) := by decide +kernel
theorem d_M_goDay_45 : decode Y_M_goDay.2.1 45 = .ok (.goto 4, 3) := by decide +kernel
theorem d_M_goDay_48 : decode Y_M_goDay.2.1 48 = .ok (.iconst 0, 1) := by decide +kernel
theorem d_M_goDay_49 : decode Y_M_goDay.2.1 49 = .ok (.istore_n 3, 1) := by decide +kernel
theorem d_M_goDay_50 : decode Y_M_goDay.2.1 50 = .ok (.aload_n 0, 1) := by decide +kernel
theorem d_M_goDay_51 : decode Y_M_goDay.2.1 51 = .ok (.getfield 82, 3) := by decide +kernel
theorem d_M_goDay_54 : decode Y_M_goDay.2.1 54 = .ok (.iload_n 2, 1) := by decide +kernel
theorem d_M_goDay_55 : decode Y_M_goDay.2.1 55 = .ok (.aload_n 0, 1) := by decide +kernel
theorem d_M_goDay_56 : decode Y_M_goDay.2.1 56 = .ok (.getfield 82, 3) := by decide +kernel
theorem d_M_goDay_59 : decode Y_M_goDay.2.1 59 = .ok (.iload_n 2, 1) := by decide +kernel
theorem d_M_goDay_60 : decode Y_M_goDay.2.1 60 = .ok (.iaload, 1) := by decide +kernel
theorem d_M_goDay_61 : decode Y_M_goDay.2.1 61 = .ok (.iload_n 3, 1) := by decide +kernel
theorem d_M_goDay_62 : decode Y_M_goDay.2.1 62 = .ok (.iadd, 1) := by decide +kernel
theorem d_M_goDay_63 : decode Y_M_goDay.2.1 63 = .ok (.aload_n 0, 1) := by decide +kernel
theorem d_M_goDay_64 : decode Y_M_goDay.2.1 64 = .ok (.getfield 82, 3) := by decide +kernel
theorem d_M_goDay_67 : decode Y_M_goDay.2.1 67 = .ok (.iload_n 2, 1) := by decide +kernel
theorem d_M_goDay_68 : decode Y_M_goDay.2.1 68 = .ok (.iaload, 1) := by decide +kernel
theorem d_M_goDay_69 : decode Y_M_goDay.2.1 69 = .ok (.invokestatic 399, 3) := by decide +kernel
theorem d_M_goDay_72 : decode Y_M_goDay.2.1 72 = .ok (.iastore, 1) := by decide +kernel
theorem d_M_goDay_73 : decode Y_M_goDay.2.1 73 = .ok (.iinc 2 1, 3) := by decide +kernel
theorem d_M_goDay_76 : decode Y_M_goDay.2.1 76 = .ok (.goto (-70), 3) := by decide +kernel
theorem d_M_goDay_79 : decode Y_M_goDay.2.1 79 = .ok (.iload_n 1, 1) := by decide +kernel
theorem d_M_goDay_80 : decode Y_M_goDay.2.1 80 = .ok (.ifCond .eq 101, 3) := by decide +kernel
theorem d_M_goDay_83 : decode Y_M_goDay.2.1 83 = .ok (.aload_n 0, 1) := by decide +kernel
theorem d_M_goDay_84 : decode Y_M_goDay.2.1 84 = .ok (.getfield 73, 3) := by decide +kernel
theorem d_M_goDay_87 : decode Y_M_goDay.2.1 87 = .ok (.bipush 7, 2) := by decide +kernel
theorem d_M_goDay_89 : decode Y_M_goDay.2.1 89 = .ok (.sipush 137, 3) := by decide +kernel
theorem d_M_goDay_92 : decode Y_M_goDay.2.1 92 = .ok (.aload_n 0, 1) := by decide +kernel
theorem d_M_goDay_93 : decode Y_M_goDay.2.1 93 = .ok (.getfield 73, 3) := by decide +kernel
theorem d_M_goDay_96 : decode Y_M_goDay.2.1 96 = .ok (.bipush 7, 2) := by decide +kernel
theorem d_M_goDay_98 : decode Y_M_goDay.2.1 98 = .ok (.iaload, 1) := by decide +kernel
theorem d_M_goDay_99 : decode Y_M_goDay.2.1 99 = .ok (.imul, 1) := by decide +kernel
theorem d_M_goDay_100 : decode Y_M_goDay.2.1 100 = .ok (.bipush 71, 2) := by decide +kernel
theorem d_M_goDay_102 : decode Y_M_goDay.2.1 102 = .ok (.iadd, 1) := by decide +kernel
theorem d_M_goDay_103 : decode Y_M_goDay.2.1 103 = .ok (.sipush 1000, 3) := by decide +kernel
theorem d_M_goDay_106 : decode Y_M_goDay.2.1 106 = .ok (.irem, 1) := by decide +kernel
theorem d_M_goDay_107 : decode Y_M_goDay.2.1 107 = .ok (.iastore, 1) := by decide +kernel
theorem d_M_goDay_108 : decode Y_M_goDay.2.1 108 = .ok (.aload_n 0, 1) := by decide +kernel
theorem d_M_goDay_109 : decode Y_M_goDay.2.1 109 = .ok (.invokevirtual 338, 3) := by decide +kernel
theorem d_M_goDay_112 : decode Y_M_goDay.2.1 112 = .ok (.ifCond .le 40, 3) := by decide +kernel
theorem d_M_goDay_115 : decode Y_M_goDay.2.1 115 = .ok (.aload_n 0, 1) := by decide +kernel
theorem d_M_goDay_116 : decode Y_M_goDay.2.1 116 = .ok (.getfield 73, 3) := by decide +kernel
theorem d_M_goDay_119 : decode Y_M_goDay.2.1 119 = .ok (.bipush 7, 2) := by decide +kernel
theorem d_M_goDay_121 : decode Y_M_goDay.2.1 121 = .ok (.iaload, 1) := by decide +kernel
theorem d_M_goDay_122 : decode Y_M_goDay.2.1 122 = .ok (.bipush 100, 2) := by decide +kernel
theorem d_M_goDay_124 : decode Y_M_goDay.2.1 124 = .ok (.irem, 1) := by decide +kernel
theorem d_M_goDay_125 : decode Y_M_goDay.2.1 125 = .ok (.aload_n 0, 1) := by decide +kernel
theorem d_M_goDay_126 : decode Y_M_goDay.2.1 126 = .ok (.getfield 30, 3) := by decide +kernel
theorem d_M_goDay_129 : decode Y_M_goDay.2.1 129 = .ok (.aload_n 0, 1) := by decide +kernel
theorem d_M_goDay_130 : decode Y_M_goDay.2.1 130 = .ok (.getfield 243, 3) := by decide +kernel
theorem d_M_goDay_133 : decode Y_M_goDay.2.1 133 = .ok (.iaload, 1) := by decide +kernel
theorem d_M_goDay_134 : decode Y_M_goDay.2.1 134 = .ok (.if_icmp .ge 18, 3) := by decide +kernel
theorem d_M_goDay_137 : decode Y_M_goDay.2.1 137 = .ok (.aload_n 0, 1) := by decide +kernel
theorem d_M_goDay_138 : decode Y_M_goDay.2.1 138 = .ok (.getfield 73, 3) := by decide +kernel
theorem d_M_goDay_141 : decode Y_M_goDay.2.1 141 = .ok (.bipush 7, 2) := by decide +kernel
theorem d_M_goDay_143 : decode Y_M_goDay.2.1 143 = .ok (.iaload, 1) := by decide +kernel
theorem d_M_goDay_144 : decode Y_M_goDay.2.1 144 = .ok (.aload_n 0, 1) := by decide +kernel
theorem d_M_goDay_145 : decode Y_M_goDay.2.1 145 = .ok (.invokevirtual 338, 3) := by decide +kernel
theorem d_M_goDay_148 : decode Y_M_goDay.2.1 148 = .ok (.irem, 1) := by decide +kernel
theorem d_M_goDay_149 : decode Y_M_goDay.2.1 149 = .ok (.goto 4, 3) := by decide +kernel
theorem d_M_goDay_152 : decode Y_M_goDay.2.1 152 = .ok (.iconst (-1), 1) := by decide +kernel
theorem d_M_goDay_153 : decode Y_M_goDay.2.1 153 = .ok (.istore_n 2, 1) := by decide +kernel
theorem d_M_goDay_154 : decode Y_M_goDay.2.1 154 = .ok (.iload_n 2, 1) := by decide +kernel
theorem d_M_goDay_155 : decode Y_M_goDay.2.1 155 = .ok (.ifCond .lt 26, 3) := by decide +kernel
theorem d_M_goDay_158 : decode Y_M_goDay.2.1 158 = .ok (.aload_n 0, 1) := by decide +kernel
theorem d_M_goDay_159 : decode Y_M_goDay.2.1 159 = .ok (.getfield 82, 3) := by decide +kernel
theorem d_M_goDay_162 : decode Y_M_goDay.2.1 162 = .ok (.iload_n 2, 1) := by decide +kernel
theorem d_M_goDay_163 : decode Y_M_goDay.2.1 163 = .ok (.aload_n 0, 1) := by decide +kernel
theorem d_M_goDay_164 : decode Y_M_goDay.2.1 164 = .ok (.getfield 82, 3) := by decide +kernel
theorem d_M_goDay_167 : decode Y_M_goDay.2.1 167 = .ok (.iload_n 2, 1) := by decide +kernel
theorem d_M_goDay_168 : decode Y_M_goDay.2.1 168 = .ok (.iaload, 1) := by decide +kernel
theorem d_M_goDay_169 : decode Y_M_goDay.2.1 169 = .ok (.iconst 1, 1) := by decide +kernel
theorem d_M_goDay_170 : decode Y_M_goDay.2.1 170 = .ok (.iadd, 1) := by decide +kernel
theorem d_M_goDay_171 : decode Y_M_goDay.2.1 171 = .ok (.aload_n 0, 1) := by decide +kernel
theorem d_M_goDay_172 : decode Y_M_goDay.2.1 172 = .ok (.getfield 82, 3) := by decide +kernel
theorem d_M_goDay_175 : decode Y_M_goDay.2.1 175 = .ok (.iload_n 2, 1) := by decide +kernel
theorem d_M_goDay_176 : decode Y_M_goDay.2.1 176 = .ok (.iaload, 1) := by decide +kernel
theorem d_M_goDay_177 : decode Y_M_goDay.2.1 177 = .ok (.invokestatic 399, 3) := by decide +kernel
theorem d_M_goDay_180 : decode Y_M_goDay.2.1 180 = .ok (.iastore, 1) := by decide +kernel
theorem d_M_goDay_181 : decode Y_M_goDay.2.1 181 = .ok (.aload_n 0, 1) := by decide +kernel
theorem d_M_goDay_182 : decode Y_M_goDay.2.1 182 = .ok (.invokevirtual 381, 3) := by decide +kernel
theorem d_M_goDay_185 : decode Y_M_goDay.2.1 185 = .ok (.istore_n 2, 1) := by decide +kernel
theorem d_M_goDay_186 : decode Y_M_goDay.2.1 186 = .ok (.aload_n 0, 1) := by decide +kernel
theorem d_M_goDay_187 : decode Y_M_goDay.2.1 187 = .ok (.invokevirtual 402, 3) := by decide +kernel
theorem d_M_goDay_190 : decode Y_M_goDay.2.1 190 = .ok (.aload_n 0, 1) := by decide +kernel
theorem d_M_goDay_191 : decode Y_M_goDay.2.1 191 = .ok (.getfield 73, 3) := by decide +kernel
theorem d_M_goDay_194 : decode Y_M_goDay.2.1 194 = .ok (.bipush 6, 2) := by decide +kernel
theorem d_M_goDay_196 : decode Y_M_goDay.2.1 196 = .ok (.dup2, 1) := by decide +kernel
theorem d_M_goDay_197 : decode Y_M_goDay.2.1 197 = .ok (.iaload, 1) := by decide +kernel
theorem d_M_goDay_198 : decode Y_M_goDay.2.1 198 = .ok (.iconst 1, 1) := by decide +kernel
theorem d_M_goDay_199 : decode Y_M_goDay.2.1 199 = .ok (.iadd, 1) := by decide +kernel
theorem d_M_goDay_200 : decode Y_M_goDay.2.1 200 = .ok (.iastore, 1) := by decide +kernel
theorem d_M_goDay_201 : decode Y_M_goDay.2.1 201 = .ok (.iload_n 2, 1) := by decide +kernel
theorem d_M_goDay_202 : decode Y_M_goDay.2.1 202 = .ok (.ireturn, 1) := by decide +kernel
theorem e_M_goDay {l : Launch} {G : GT} {d : Nat} {P : Int → MM → Prop} {m : MM} (x1 : Int)  (H : wfM m → inR x1 → ∃ (e1 : Nat) (P2 : MM → Prop), e1 < d ∧ CV l G Y_M_layNow e1 [.inr (.inr 70)] m P2 ∧ (∀ m8, P2 m8 → wfM m8 → (Wq l G false Y_M_goDay d (QI P) 6 [(0, .inr (.inr 70)), (1, .inl x1), (2, .inl 0)] [] m8))) : CI l G Y_M_goDay d [.inr (.inr 70), .inl x1] m P := by
  refine CI.of [(0, .inr (.inr 70)), (1, .inl x1)] k_M_goDay.1 (Nat.le_of_ble_eq_true rfl) rfl (Wp.wf (fun hw _ hl hs => ?_))
  have H0 := H hw (hl _ (List.mem_of_getElem? (i := 1) rfl))
  refine Wp.aload_n 0 0 d_M_goDay_0 rfl rfl ?_
  obtain ⟨e1, P2, hd3, ho4, H5⟩ := H0
  refine Wq.VV (st := []) [] d_M_goDay_1 k_M_layNow ml_M_378 rfl rfl rfl (fun h => by cases h) (Nat.le_of_ble_eq_true rfl) hd3 ho4 (fun m8 hp9 hw11 => ?_)
  have H6 := H5 m8 hp9 hw11
  refine Wp.iconst d_M_goDay_4 (by decide) ?_
  refine Wp.istore_n 2 [(0, .inr (.inr 70)), (1, .inl x1), (2, .inl 0)] d_M_goDay_5 rfl (by decide) rfl ?_
  exact H6
theorem s_M_goDay_6 {l : Launch} {G : GT} {d : Nat} {P : Int → MM → Prop} {m : MM} (x1 : Int) (x2 : Int)  (H : wfM m → inR x1 → inR x2 → ∃ (e1 : Nat) (P2 : Int → MM → Prop), e1 < d ∧ CI l G Y_M_lots e1 [.inr (.inr 70)] m P2 ∧ (∀ z7 m8, P2 z7 m8 → inR z7 → wfM m8 → ((x2 ≥ z7 → ((x1 = 0 → (∃ (e22 : Nat) (P23 : Int → MM → Prop), e22 < d ∧ CI l G Y_M_settleHeap e22 [.inr (.inr 70)] m8 P23 ∧ (∀ z28 m29, P23 z28 m29 → inR z28 → wfM m29 → (∃ (e33 : Nat) (P34 : MM → Prop), e33 < d ∧ CV l G Y_M_bring e33 [.inr (.inr 70)] m29 P34 ∧ (∀ m40, P34 m40 → wfM m40 → ((inR ((m40 90 6) + 1)) ∧ (∀ m46, m46 = up m40 90 6 ((m40 90 6) + 1) → (P z28 m46)))))))) ∧ (¬ (x1 = 0) → ((inR (137 * (m8 90 7))) ∧ ((inR ((137 * (m8 90 7)) + 71)) ∧ (∀ m55, m55 = up m8 90 7 (Int.tmod ((137 * (m8 90 7)) + 71) 1000) → (∃ (e60 : Nat) (P61 : Int → MM → Prop), e60 < d ∧ CI l G Y_M_lots e60 [.inr (.inr 70)] m55 P61 ∧ (∀ z66 m67, P61 z66 m67 → inR z66 → wfM m67 → ((z66 ≤ 0 → (Wq l G false Y_M_goDay d (QI P) 153 [(0, .inr (.inr 70))] [.inl (-1)] m67)) ∧ (¬ (z66 ≤ 0) → ((0 ≤ (m67 70 28) ∧ (m67 70 28) < (2 : Int)) ∧ (((Int.tmod (m67 90 7) 100) ≥ (m67 76 (m67 70 28)) → (Wq l G false Y_M_goDay d (QI P) 153 [(0, .inr (.inr 70))] [.inl (-1)] m67)) ∧ (¬ ((Int.tmod (m67 90 7) 100) ≥ (m67 76 (m67 70 28))) → (∃ (e83 : Nat) (P84 : Int → MM → Prop), e83 < d ∧ CI l G Y_M_lots e83 [.inr (.inr 70)] m67 P84 ∧ (∀ z89 m90, P84 z89 m90 → inR z89 → wfM m90 → ((z89 ≠ 0) ∧ (Wq l G false Y_M_goDay d (QI P) 153 [(0, .inr (.inr 70))] [.inl (Int.tmod (m67 90 7) z89)] m90))))))))))))))))) ∧ (¬ (x2 ≥ z7) → (∀ m96, m96 = up m8 70 34 x2 → ((0 ≤ (m96 70 28) ∧ (m96 70 28) < (2 : Int)) ∧ (∃ (e101 : Nat) (P102 : Int → MM → Prop), e101 < d ∧ CI l G Y_M_bit e101 [.inl (m96 78 (m96 70 28)), .inl 0] m96 P102 ∧ (∀ z107 m108, P102 z107 m108 → inR z107 → wfM m108 → ((z107 = 0 → ((0 ≤ x2 ∧ x2 < (5 : Int)) ∧ ((inR ((m108 93 x2) + 0)) ∧ ((0 ≤ x2 ∧ x2 < (5 : Int)) ∧ (∃ (e123 : Nat) (P124 : Int → MM → Prop), e123 < d ∧ CI l G Y_M_keptTo e123 [.inl ((m108 93 x2) + 0), .inl (m108 93 x2)] m108 P124 ∧ (∀ z129 m130, P124 z129 m130 → inR z129 → wfM m130 → ((0 ≤ x2 ∧ x2 < (5 : Int)) ∧ (∀ m134, m134 = up m130 93 x2 z129 → ((inR (x2 + 1)) ∧ (Wq l G false Y_M_goDay d (QI P) 6 [(0, .inr (.inr 70)), (1, .inl x1), (2, .inl (x2 + 1))] [] m134)))))))))) ∧ (¬ (z107 = 0) → (∃ (e143 : Nat) (P144 : Int → MM → Prop), e143 < d ∧ CI l G Y_M_comes e143 [.inr (.inr 70)] m108 P144 ∧ (∀ z149 m150, P144 z149 m150 → inR z149 → wfM m150 → (∃ (e154 : Nat) (P155 : Int → MM → Prop), e154 < d ∧ CI l G Y_M_held e154 [.inl z149, .inl 0, .inl 20] m150 P155 ∧ (∀ z160 m161, P155 z160 m161 → inR z160 → wfM m161 → ((0 ≤ x2 ∧ x2 < (5 : Int)) ∧ ((inR ((m161 93 x2) + z160)) ∧ ((0 ≤ x2 ∧ x2 < (5 : Int)) ∧ (∃ (e171 : Nat) (P172 : Int → MM → Prop), e171 < d ∧ CI l G Y_M_keptTo e171 [.inl ((m161 93 x2) + z160), .inl (m161 93 x2)] m161 P172 ∧ (∀ z177 m178, P172 z177 m178 → inR z177 → wfM m178 → ((0 ≤ x2 ∧ x2 < (5 : Int)) ∧ (∀ m182, m182 = up m178 93 x2 z177 → ((inR (x2 + 1)) ∧ (Wq l G false Y_M_goDay d (QI P) 6 [(0, .inr (.inr 70)), (1, .inl x1), (2, .inl (x2 + 1))] [] m182))))))))))))))))))))))) : Wq l G false Y_M_goDay d (QI P) 6 [(0, .inr (.inr 70)), (1, .inl x1), (2, .inl x2)] [] m := by
  refine Wp.wf (fun hw _ hl hs => ?_)
  have H0 := H hw (hl _ (List.mem_of_getElem? (i := 1) rfl)) (hl _ (List.mem_of_getElem? (i := 2) rfl))
  refine Wp.iload_n 2 2 d_M_goDay_6 rfl rfl ?_
  refine Wp.aload_n 0 0 d_M_goDay_7 rfl rfl ?_
  obtain ⟨e1, P2, hd3, ho4, H5⟩ := H0
  refine Wq.VI (st := [.inl x2]) [] d_M_goDay_8 k_M_lots ml_M_338 rfl rfl rfl (fun h => by cases h) (Nat.le_of_ble_eq_true rfl) hd3 ho4 (fun z7 m8 hp9 hz10 hw11 => ?_)
  have H6 := H5 z7 m8 hp9 hz10 hw11
  obtain ⟨H13, H14⟩ := H6
  refine Wp.icmp_ge 79 d_M_goDay_11 (by decide) (fun c12 => ?_) (fun c12 => ?_)
  · have H15 := H13 c12
    refine Wp.iload_n 1 1 d_M_goDay_79 rfl rfl ?_
    obtain ⟨H18, H19⟩ := H15
    refine Wp.if_eq 181 d_M_goDay_80 (by decide) (fun c17 => ?_) (fun c17 => ?_)
    · have H20 := H18 c17
      refine Wp.aload_n 0 0 d_M_goDay_181 rfl rfl ?_
      obtain ⟨e22, P23, hd24, ho25, H26⟩ := H20
      refine Wq.VI (st := []) [] d_M_goDay_182 k_M_settleHeap ml_M_381 rfl rfl rfl (fun h => by cases h) (Nat.le_of_ble_eq_true rfl) hd24 ho25 (fun z28 m29 hp30 hz31 hw32 => ?_)
      have H27 := H26 z28 m29 hp30 hz31 hw32
      refine Wp.istore_n 2 [(0, .inr (.inr 70)), (1, .inl x1), (2, .inl z28)] d_M_goDay_185 rfl (by decide) rfl ?_
      refine Wp.aload_n 0 0 d_M_goDay_186 rfl rfl ?_
      obtain ⟨e33, P34, hd35, ho36, H37⟩ := H27
      refine Wq.VV (st := []) [] d_M_goDay_187 k_M_bring ml_M_402 rfl rfl rfl (fun h => by cases h) (Nat.le_of_ble_eq_true rfl) hd35 ho36 (fun m40 hp41 hw43 => ?_)
      have H38 := H37 m40 hp41 hw43
      refine Wp.aload_n 0 0 d_M_goDay_190 rfl rfl ?_
      refine Wp.getP 90 d_M_goDay_191 fl_M_73 rfl rfl rfl ?_
      refine Wp.bipush d_M_goDay_194 (by decide) (by decide) ?_
      refine Wp.dup2 d_M_goDay_196 rfl rfl ?_
      refine Wp.iald d_M_goDay_197 rfl (Or.inl rfl) (by decide) (by decide) ?_
      refine Wp.iconst d_M_goDay_198 (by decide) ?_
      obtain ⟨s44, H45⟩ := H38
      refine Wp.iadd d_M_goDay_199 s44 ?_
      refine Wq.iast d_M_goDay_200 rfl (by decide) (by decide) (fun m46 hm47 => ?_)
      have H48 := H45 m46 hm47
      refine Wp.iload_n 2 2 d_M_goDay_201 rfl rfl ?_
      exact Wq.iret d_M_goDay_202 rfl H48
    · have H21 := H19 c17
      refine Wp.aload_n 0 0 d_M_goDay_83 rfl rfl ?_
      refine Wp.getP 90 d_M_goDay_84 fl_M_73 rfl rfl rfl ?_
      refine Wp.bipush d_M_goDay_87 (by decide) (by decide) ?_
      refine Wp.sipush d_M_goDay_89 (by decide) (by decide) ?_
      refine Wp.aload_n 0 0 d_M_goDay_92 rfl rfl ?_
      refine Wp.getP 90 d_M_goDay_93 fl_M_73 rfl rfl rfl ?_
      refine Wp.bipush d_M_goDay_96 (by decide) (by decide) ?_
      refine Wp.iald d_M_goDay_98 rfl (Or.inl rfl) (by decide) (by decide) ?_
      obtain ⟨s51, H52⟩ := H21
      refine Wp.imul d_M_goDay_99 s51 ?_
      refine Wp.bipush d_M_goDay_100 (by decide) (by decide) ?_
      obtain ⟨s53, H54⟩ := H52
      refine Wp.iadd d_M_goDay_102 s53 ?_
      refine Wp.sipush d_M_goDay_103 (by decide) (by decide) ?_
      refine Wq.irem d_M_goDay_106 (by decide) ?_
      refine Wq.iast d_M_goDay_107 rfl (by decide) (by decide) (fun m55 hm56 => ?_)
      have H57 := H54 m55 hm56
      refine Wp.aload_n 0 0 d_M_goDay_108 rfl rfl ?_
      obtain ⟨e60, P61, hd62, ho63, H64⟩ := H57
      refine Wq.VI (st := []) [] d_M_goDay_109 k_M_lots ml_M_338 rfl rfl rfl (fun h => by cases h) (Nat.le_of_ble_eq_true rfl) hd62 ho63 (fun z66 m67 hp68 hz69 hw70 => ?_)
      have H65 := H64 z66 m67 hp68 hz69 hw70
      obtain ⟨H72, H73⟩ := H65
      refine Wp.if_le 152 d_M_goDay_112 (by decide) (fun c71 => ?_) (fun c71 => ?_)
      · have H74 := H72 c71
        refine Wp.iconst d_M_goDay_152 (by decide) ?_
        refine Wp.pick [0] [(0, .inr (.inr 70))] rfl ?_
        exact H74
      · have H75 := H73 c71
        refine Wp.aload_n 0 0 d_M_goDay_115 rfl rfl ?_
        refine Wp.getP 90 d_M_goDay_116 fl_M_73 rfl rfl rfl ?_
        refine Wp.bipush d_M_goDay_119 (by decide) (by decide) ?_
        refine Wp.iald d_M_goDay_121 rfl (Or.inl rfl) (by decide) (by decide) ?_
        refine Wp.bipush d_M_goDay_122 (by decide) (by decide) ?_
        refine Wq.irem d_M_goDay_124 (by decide) ?_
        refine Wp.aload_n 0 0 d_M_goDay_125 rfl rfl ?_
        refine Wp.getP 76 d_M_goDay_126 fl_M_30 rfl rfl rfl ?_
        refine Wp.aload_n 0 0 d_M_goDay_129 rfl rfl ?_
        refine Wq.getI 28 rfl d_M_goDay_130 fl_M_243 rfl (Or.inl rfl) ?_
        obtain ⟨s76, H77⟩ := H75
        refine Wp.iald d_M_goDay_133 rfl (Or.inl rfl) s76.1 s76.2 ?_
        obtain ⟨H79, H80⟩ := H77
        refine Wp.icmp_ge 152 d_M_goDay_134 (by decide) (fun c78 => ?_) (fun c78 => ?_)
        · have H81 := H79 c78
          refine Wp.iconst d_M_goDay_152 (by decide) ?_
          refine Wp.pick [0] [(0, .inr (.inr 70))] rfl ?_
          exact H81
        · have H82 := H80 c78
          refine Wp.aload_n 0 0 d_M_goDay_137 rfl rfl ?_
          refine Wp.getP 90 d_M_goDay_138 fl_M_73 rfl rfl rfl ?_
          refine Wp.bipush d_M_goDay_141 (by decide) (by decide) ?_
          refine Wp.iald d_M_goDay_143 rfl (Or.inl rfl) (by decide) (by decide) ?_
          refine Wp.aload_n 0 0 d_M_goDay_144 rfl rfl ?_
          obtain ⟨e83, P84, hd85, ho86, H87⟩ := H82
          refine Wq.VI (st := [.inl (m67 90 7)]) [] d_M_goDay_145 k_M_lots ml_M_338 rfl rfl rfl (fun h => by cases h) (Nat.le_of_ble_eq_true rfl) hd85 ho86 (fun z89 m90 hp91 hz92 hw93 => ?_)
          have H88 := H87 z89 m90 hp91 hz92 hw93
          obtain ⟨s94, H95⟩ := H88
          refine Wq.irem d_M_goDay_148 s94 ?_
          refine Wp.goto 153 d_M_goDay_149 (by decide) ?_
          refine Wp.pick [0] [(0, .inr (.inr 70))] rfl ?_
          exact H95
  · have H16 := H14 c12
    refine Wp.aload_n 0 0 d_M_goDay_14 rfl rfl ?_
    refine Wp.iload_n 2 2 d_M_goDay_15 rfl rfl ?_
    refine Wq.putI 34 rfl d_M_goDay_16 fl_M_325 (fun _ _ _ h => by cases h; rfl) rfl rfl rfl (fun m96 hm97 => ?_)
    have H98 := H16 m96 hm97
    refine Wp.aload_n 0 0 d_M_goDay_19 rfl rfl ?_
    refine Wp.getP 78 d_M_goDay_20 fl_M_36 rfl rfl rfl ?_
    refine Wp.aload_n 0 0 d_M_goDay_23 rfl rfl ?_
    refine Wq.getI 28 rfl d_M_goDay_24 fl_M_243 rfl (Or.inl rfl) ?_
    obtain ⟨s99, H100⟩ := H98
    refine Wp.iald d_M_goDay_27 rfl (Or.inl rfl) s99.1 s99.2 ?_
    refine Wp.iconst d_M_goDay_28 (by decide) ?_
    obtain ⟨e101, P102, hd103, ho104, H105⟩ := H100
    refine Wq.SI (st := []) [.inl (m96 78 (m96 70 28)), .inl 0] d_M_goDay_29 k_M_bit ml_M_252 rfl  (fun h => by cases h) (Nat.le_of_ble_eq_true rfl) hd103 ho104 (fun z107 m108 hp109 hz110 hw111 => ?_)
    have H106 := H105 z107 m108 hp109 hz110 hw111
    obtain ⟨H113, H114⟩ := H106
    refine Wp.if_eq 48 d_M_goDay_32 (by decide) (fun c112 => ?_) (fun c112 => ?_)
    · have H115 := H113 c112
      refine Wp.iconst d_M_goDay_48 (by decide) ?_
      refine Wp.istore_n 3 [(0, .inr (.inr 70)), (1, .inl x1), (2, .inl x2), (3, .inl 0)] d_M_goDay_49 rfl (by decide) rfl ?_
      refine Wp.aload_n 0 0 d_M_goDay_50 rfl rfl ?_
      refine Wp.getP 93 d_M_goDay_51 fl_M_82 rfl rfl rfl ?_
      refine Wp.iload_n 2 2 d_M_goDay_54 rfl rfl ?_
      refine Wp.aload_n 0 0 d_M_goDay_55 rfl rfl ?_
      refine Wp.getP 93 d_M_goDay_56 fl_M_82 rfl rfl rfl ?_
      refine Wp.iload_n 2 2 d_M_goDay_59 rfl rfl ?_
      obtain ⟨s117, H118⟩ := H115
      refine Wp.iald d_M_goDay_60 rfl (Or.inl rfl) s117.1 s117.2 ?_
      refine Wp.iload_n 3 3 d_M_goDay_61 rfl rfl ?_
      obtain ⟨s119, H120⟩ := H118
      refine Wp.iadd d_M_goDay_62 s119 ?_
      refine Wp.aload_n 0 0 d_M_goDay_63 rfl rfl ?_
      refine Wp.getP 93 d_M_goDay_64 fl_M_82 rfl rfl rfl ?_
      refine Wp.iload_n 2 2 d_M_goDay_67 rfl rfl ?_
      obtain ⟨s121, H122⟩ := H120
      refine Wp.iald d_M_goDay_68 rfl (Or.inl rfl) s121.1 s121.2 ?_
      obtain ⟨e123, P124, hd125, ho126, H127⟩ := H122
      refine Wq.SI (st := [.inl x2, .inr (.inr 93)]) [.inl ((m108 93 x2) + 0), .inl (m108 93 x2)] d_M_goDay_69 k_M_keptTo ml_M_399 rfl  (fun h => by cases h) (Nat.le_of_ble_eq_true rfl) hd125 ho126 (fun z129 m130 hp131 hz132 hw133 => ?_)
      have H128 := H127 z129 m130 hp131 hz132 hw133
      obtain ⟨s141, H142⟩ := H128
      refine Wq.iast d_M_goDay_72 rfl s141.1 s141.2 (fun m134 hm135 => ?_)
      have H136 := H142 m134 hm135
      obtain ⟨s139, H140⟩ := H136
      refine Wp.iinc 2 2 [(0, .inr (.inr 70)), (1, .inl x1), (2, .inl (x2 + 1)), (3, .inl 0)] d_M_goDay_73 rfl s139 (by decide) rfl ?_
      refine Wp.goto 6 d_M_goDay_76 (by decide) ?_
      refine Wp.pick [0, 1, 2] [(0, .inr (.inr 70)), (1, .inl x1), (2, .inl (x2 + 1))] rfl ?_
      exact H140
    · have H116 := H114 c112
      refine Wp.aload_n 0 0 d_M_goDay_35 rfl rfl ?_
      obtain ⟨e143, P144, hd145, ho146, H147⟩ := H116
      refine Wq.VI (st := []) [] d_M_goDay_36 k_M_comes ml_M_393 rfl rfl rfl (fun h => by cases h) (Nat.le_of_ble_eq_true rfl) hd145 ho146 (fun z149 m150 hp151 hz152 hw153 => ?_)
      have H148 := H147 z149 m150 hp151 hz152 hw153
      refine Wp.iconst d_M_goDay_39 (by decide) ?_
      refine Wp.bipush d_M_goDay_40 (by decide) (by decide) ?_
      obtain ⟨e154, P155, hd156, ho157, H158⟩ := H148
      refine Wq.SI (st := []) [.inl z149, .inl 0, .inl 20] d_M_goDay_42 k_M_held ml_M_396 rfl  (fun h => by cases h) (Nat.le_of_ble_eq_true rfl) hd156 ho157 (fun z160 m161 hp162 hz163 hw164 => ?_)
      have H159 := H158 z160 m161 hp162 hz163 hw164
      refine Wp.goto 49 d_M_goDay_45 (by decide) ?_
      refine Wp.istore_n 3 [(0, .inr (.inr 70)), (1, .inl x1), (2, .inl x2), (3, .inl z160)] d_M_goDay_49 rfl (by decide) rfl ?_
      refine Wp.aload_n 0 0 d_M_goDay_50 rfl rfl ?_
      refine Wp.getP 93 d_M_goDay_51 fl_M_82 rfl rfl rfl ?_
      refine Wp.iload_n 2 2 d_M_goDay_54 rfl rfl ?_
      refine Wp.aload_n 0 0 d_M_goDay_55 rfl rfl ?_
      refine Wp.getP 93 d_M_goDay_56 fl_M_82 rfl rfl rfl ?_
      refine Wp.iload_n 2 2 d_M_goDay_59 rfl rfl ?_
      obtain ⟨s165, H166⟩ := H159
      refine Wp.iald d_M_goDay_60 rfl (Or.inl rfl) s165.1 s165.2 ?_
      refine Wp.iload_n 3 3 d_M_goDay_61 rfl rfl ?_
      obtain ⟨s167, H168⟩ := H166
      refine Wp.iadd d_M_goDay_62 s167 ?_
      refine Wp.aload_n 0 0 d_M_goDay_63 rfl rfl ?_
      refine Wp.getP 93 d_M_goDay_64 fl_M_82 rfl rfl rfl ?_
      refine Wp.iload_n 2 2 d_M_goDay_67 rfl rfl ?_
      obtain ⟨s169, H170⟩ := H168
      refine Wp.iald d_M_goDay_68 rfl (Or.inl rfl) s169.1 s169.2 ?_
      obtain ⟨e171, P172, hd173, ho174, H175⟩ := H170
      refine Wq.SI (st := [.inl x2, .inr (.inr 93)]) [.inl ((m161 93 x2) + z160), .inl (m161 93 x2)] d_M_goDay_69 k_M_keptTo ml_M_399 rfl  (fun h => by cases h) (Nat.le_of_ble_eq_true rfl) hd173 ho174 (fun z177 m178 hp179 hz180 hw181 => ?_)
      have H176 := H175 z177 m178 hp179 hz180 hw181
      obtain ⟨s189, H190⟩ := H176
      refine Wq.iast d_M_goDay_72 rfl s189.1 s189.2 (fun m182 hm183 => ?_)
      have H184 := H190 m182 hm183
      obtain ⟨s187, H188⟩ := H184
      refine Wp.iinc 2 2 [(0, .inr (.inr 70)), (1, .inl x1), (2, .inl (x2 + 1)), (3, .inl z160)] d_M_goDay_73 rfl s187 (by decide) rfl ?_
      refine Wp.goto 6 d_M_goDay_76 (by decide) ?_
      refine Wp.pick [0, 1, 2] [(0, .inr (.inr 70)), (1, .inl x1), (2, .inl (x2 + 1))] rfl ?_
      exact H188
theorem s_M_goDay_153 {l : Launch} {G : GT} {d : Nat} {P : Int → MM → Prop} {m : MM} (y0 : Int)  (H : wfM m → inR y0 → (y0 < 0 → (∃ (e6 : Nat) (P7 : Int → MM → Prop), e6 < d ∧ CI l G Y_M_settleHeap e6 [.inr (.inr 70)] m P7 ∧ (∀ z12 m13, P7 z12 m13 → inR z12 → wfM m13 → (∃ (e17 : Nat) (P18 : MM → Prop), e17 < d ∧ CV l G Y_M_bring e17 [.inr (.inr 70)] m13 P18 ∧ (∀ m24, P18 m24 → wfM m24 → ((inR ((m24 90 6) + 1)) ∧ (∀ m30, m30 = up m24 90 6 ((m24 90 6) + 1) → (P z12 m30)))))))) ∧ (¬ (y0 < 0) → ((0 ≤ y0 ∧ y0 < (5 : Int)) ∧ ((inR ((m 93 y0) + 1)) ∧ ((0 ≤ y0 ∧ y0 < (5 : Int)) ∧ (∃ (e41 : Nat) (P42 : Int → MM → Prop), e41 < d ∧ CI l G Y_M_keptTo e41 [.inl ((m 93 y0) + 1), .inl (m 93 y0)] m P42 ∧ (∀ z47 m48, P42 z47 m48 → inR z47 → wfM m48 → ((0 ≤ y0 ∧ y0 < (5 : Int)) ∧ (∀ m52, m52 = up m48 93 y0 z47 → (∃ (e57 : Nat) (P58 : Int → MM → Prop), e57 < d ∧ CI l G Y_M_settleHeap e57 [.inr (.inr 70)] m52 P58 ∧ (∀ z63 m64, P58 z63 m64 → inR z63 → wfM m64 → (∃ (e68 : Nat) (P69 : MM → Prop), e68 < d ∧ CV l G Y_M_bring e68 [.inr (.inr 70)] m64 P69 ∧ (∀ m75, P69 m75 → wfM m75 → ((inR ((m75 90 6) + 1)) ∧ (∀ m81, m81 = up m75 90 6 ((m75 90 6) + 1) → (P z63 m81)))))))))))))))) : Wq l G false Y_M_goDay d (QI P) 153 [(0, .inr (.inr 70))] [.inl y0] m := by
  refine Wp.wf (fun hw _ hl hs => ?_)
  have H0 := H hw (hs _ (List.mem_of_getElem? (i := 0) rfl))
  refine Wp.istore_n 2 [(0, .inr (.inr 70)), (2, .inl y0)] d_M_goDay_153 rfl (by decide) rfl ?_
  refine Wp.iload_n 1 2 d_M_goDay_154 rfl rfl ?_
  obtain ⟨H2, H3⟩ := H0
  refine Wp.if_lt 181 d_M_goDay_155 (by decide) (fun c1 => ?_) (fun c1 => ?_)
  · have H4 := H2 c1
    refine Wp.aload_n 0 0 d_M_goDay_181 rfl rfl ?_
    obtain ⟨e6, P7, hd8, ho9, H10⟩ := H4
    refine Wq.VI (st := []) [] d_M_goDay_182 k_M_settleHeap ml_M_381 rfl rfl rfl (fun h => by cases h) (Nat.le_of_ble_eq_true rfl) hd8 ho9 (fun z12 m13 hp14 hz15 hw16 => ?_)
    have H11 := H10 z12 m13 hp14 hz15 hw16
    refine Wp.istore_n 2 [(0, .inr (.inr 70)), (2, .inl z12)] d_M_goDay_185 rfl (by decide) rfl ?_
    refine Wp.aload_n 0 0 d_M_goDay_186 rfl rfl ?_
    obtain ⟨e17, P18, hd19, ho20, H21⟩ := H11
    refine Wq.VV (st := []) [] d_M_goDay_187 k_M_bring ml_M_402 rfl rfl rfl (fun h => by cases h) (Nat.le_of_ble_eq_true rfl) hd19 ho20 (fun m24 hp25 hw27 => ?_)
    have H22 := H21 m24 hp25 hw27
    refine Wp.aload_n 0 0 d_M_goDay_190 rfl rfl ?_
    refine Wp.getP 90 d_M_goDay_191 fl_M_73 rfl rfl rfl ?_
    refine Wp.bipush d_M_goDay_194 (by decide) (by decide) ?_
    refine Wp.dup2 d_M_goDay_196 rfl rfl ?_
    refine Wp.iald d_M_goDay_197 rfl (Or.inl rfl) (by decide) (by decide) ?_
    refine Wp.iconst d_M_goDay_198 (by decide) ?_
    obtain ⟨s28, H29⟩ := H22
    refine Wp.iadd d_M_goDay_199 s28 ?_
    refine Wq.iast d_M_goDay_200 rfl (by decide) (by decide) (fun m30 hm31 => ?_)
    have H32 := H29 m30 hm31
    refine Wp.iload_n 1 2 d_M_goDay_201 rfl rfl ?_
    exact Wq.iret d_M_goDay_202 rfl H32
  · have H5 := H3 c1
    refine Wp.aload_n 0 0 d_M_goDay_158 rfl rfl ?_
    refine Wp.getP 93 d_M_goDay_159 fl_M_82 rfl rfl rfl ?_
    refine Wp.iload_n 1 2 d_M_goDay_162 rfl rfl ?_
    refine Wp.aload_n 0 0 d_M_goDay_163 rfl rfl ?_
    refine Wp.getP 93 d_M_goDay_164 fl_M_82 rfl rfl rfl ?_
    refine Wp.iload_n 1 2 d_M_goDay_167 rfl rfl ?_
    obtain ⟨s35, H36⟩ := H5
    refine Wp.iald d_M_goDay_168 rfl (Or.inl rfl) s35.1 s35.2 ?_
    refine Wp.iconst d_M_goDay_169 (by decide) ?_
    obtain ⟨s37, H38⟩ := H36
    refine Wp.iadd d_M_goDay_170 s37 ?_
    refine Wp.aload_n 0 0 d_M_goDay_171 rfl rfl ?_
    refine Wp.getP 93 d_M_goDay_172 fl_M_82 rfl rfl rfl ?_
    refine Wp.iload_n 1 2 d_M_goDay_175 rfl rfl ?_
    obtain ⟨s39, H40⟩ := H38
    refine Wp.iald d_M_goDay_176 rfl (Or.inl rfl) s39.1 s39.2 ?_
    obtain ⟨e41, P42, hd43, ho44, H45⟩ := H40
    refine Wq.SI (st := [.inl y0, .inr (.inr 93)]) [.inl ((m 93 y0) + 1), .inl (m 93 y0)] d_M_goDay_177 k_M_keptTo ml_M_399 rfl  (fun h => by cases h) (Nat.le_of_ble_eq_true rfl) hd43 ho44 (fun z47 m48 hp49 hz50 hw51 => ?_)
    have H46 := H45 z47 m48 hp49 hz50 hw51
    obtain ⟨s86, H87⟩ := H46
    refine Wq.iast d_M_goDay_180 rfl s86.1 s86.2 (fun m52 hm53 => ?_)
    have H54 := H87 m52 hm53
    refine Wp.aload_n 0 0 d_M_goDay_181 rfl rfl ?_
    obtain ⟨e57, P58, hd59, ho60, H61⟩ := H54
    refine Wq.VI (st := []) [] d_M_goDay_182 k_M_settleHeap ml_M_381 rfl rfl rfl (fun h => by cases h) (Nat.le_of_ble_eq_true rfl) hd59 ho60 (fun z63 m64 hp65 hz66 hw67 => ?_)
    have H62 := H61 z63 m64 hp65 hz66 hw67
    refine Wp.istore_n 2 [(0, .inr (.inr 70)), (2, .inl z63)] d_M_goDay_185 rfl (by decide) rfl ?_
    refine Wp.aload_n 0 0 d_M_goDay_186 rfl rfl ?_
    obtain ⟨e68, P69, hd70, ho71, H72⟩ := H62
    refine Wq.VV (st := []) [] d_M_goDay_187 k_M_bring ml_M_402 rfl rfl rfl (fun h => by cases h) (Nat.le_of_ble_eq_true rfl) hd70 ho71 (fun m75 hp76 hw78 => ?_)
    have H73 := H72 m75 hp76 hw78
    refine Wp.aload_n 0 0 d_M_goDay_190 rfl rfl ?_
    refine Wp.getP 90 d_M_goDay_191 fl_M_73 rfl rfl rfl ?_
    refine Wp.bipush d_M_goDay_194 (by decide) (by decide) ?_
    refine Wp.dup2 d_M_goDay_196 rfl rfl ?_
    refine Wp.iald d_M_goDay_197 rfl (Or.inl rfl) (by decide) (by decide) ?_
    refine Wp.iconst d_M_goDay_198 (by decide) ?_
    obtain ⟨s79, H80⟩ := H73
    refine Wp.iadd d_M_goDay_199 s79 ?_
    refine Wq.iast d_M_goDay_200 rfl (by decide) (by decide) (fun m81 hm82 => ?_)
    have H83 := H80 m81 hm82
    refine Wp.iload_n 1 2 d_M_goDay_201 rfl rfl ?_
    exact Wq.iret d_M_goDay_202 rfl H83
theorem d_M_comes_0 : decode Y_M_comes.2.1 0 = .ok (.iconst 0, 1) := by decide +kernel
theorem d_M_comes_1 : decode Y_M_comes.2.1 1 = .ok (.istore_n 1, 1) := by decide +kernel
theorem d_M_comes_2 : decode Y_M_comes.2.1 2 = .ok (.aload_n 0, 1) := by decide +kernel
theorem d_M_comes_3 : decode Y_M_comes.2.1 3 = .ok (.getfield 48, 3) := by decide +kernel
theorem d_M_comes_6 : decode Y_M_comes.2.1 6 = .ok (.aload_n 0, 1) := by decide +kernel
theorem d_M_comes_7 : decode Y_M_comes.2.1 7 = .ok (.getfield 243, 3) := by decide +kernel
theorem d_M_comes_10 : decode Y_M_comes.2.1 10 = .ok (.iaload, 1) := by decide +kernel
theorem d_M_comes_11 : decode Y_M_comes.2.1 11 = .ok (.istore_n 2, 1) := by decide +kernel
theorem d_M_comes_12 : decode Y_M_comes.2.1 12 = .ok (.iload_n 2, 1) := by decide +kernel
theorem d_M_comes_13 : decode Y_M_comes.2.1 13 = .ok (.aload_n 0, 1) := by decide +kernel
theorem d_M_comes_14 : decode Y_M_comes.2.1 14 = .ok (.getfield 51, 3) := by decide +kernel
theorem d_M_comes_17 : decode Y_M_comes.2.1 17 = .ok (.aload_n 0, 1) := by decide +kernel
theorem d_M_comes_18 : decode Y_M_comes.2.1 18 = .ok (.getfield 243, 3) := by decide +kernel
theorem d_M_comes_21 : decode Y_M_comes.2.1 21 = .ok (.iaload, 1) := by decide +kernel
theorem d_M_comes_22 : decode Y_M_comes.2.1 22 = .ok (.if_icmp .ge 108, 3) := by decide +kernel
theorem d_M_comes_25 : decode Y_M_comes.2.1 25 = .ok (.aload_n 0, 1) := by decide +kernel
theorem d_M_comes_26 : decode Y_M_comes.2.1 26 = .ok (.getfield 58, 3) := by decide +kernel
theorem d_M_comes_29 : decode Y_M_comes.2.1 29 = .ok (.iload_n 2, 1) := by decide +kernel
theorem d_M_comes_30 : decode Y_M_comes.2.1 30 = .ok (.iaload, 1) := by decide +kernel
theorem d_M_comes_31 : decode Y_M_comes.2.1 31 = .ok (.istore_n 3, 1) := by decide +kernel
theorem d_M_comes_32 : decode Y_M_comes.2.1 32 = .ok (.iload_n 3, 1) := by decide +kernel
theorem d_M_comes_33 : decode Y_M_comes.2.1 33 = .ok (.bipush 126, 2) := by decide +kernel
theorem d_M_comes_35 : decode Y_M_comes.2.1 35 = .ok (.if_icmp .ne 30, 3) := by decide +kernel
theorem d_M_comes_38 : decode Y_M_comes.2.1 38 = .ok (.aload_n 0, 1) := by decide +kernel
theorem d_M_comes_39 : decode Y_M_comes.2.1 39 = .ok (.getfield 70, 3) := by decide +kernel
theorem d_M_comes_42 : decode Y_M_comes.2.1 42 = .ok (.iload_n 1, 1) := by decide +kernel
theorem d_M_comes_43 : decode Y_M_comes.2.1 43 = .ok (.iconst 1, 1) := by decide +kernel
theorem d_M_comes_44 : decode Y_M_comes.2.1 44 = .ok (.isub, 1) := by decide +kernel
theorem d_M_comes_45 : decode Y_M_comes.2.1 45 = .ok (.aload_n 0, 1) := by decide +kernel
theorem d_M_comes_46 : decode Y_M_comes.2.1 46 = .ok (.getfield 70, 3) := by decide +kernel
theorem d_M_comes_49 : decode Y_M_comes.2.1 49 = .ok (.iload_n 1, 1) := by decide +kernel
theorem d_M_comes_50 : decode Y_M_comes.2.1 50 = .ok (.iconst 1, 1) := by decide +kernel
theorem d_M_comes_51 : decode Y_M_comes.2.1 51 = .ok (.isub, 1) := by decide +kernel
theorem d_M_comes_52 : decode Y_M_comes.2.1 52 = .ok (.iaload, 1) := by decide +kernel
theorem d_M_comes_53 : decode Y_M_comes.2.1 53 = .ok (.ifCond .ne 7, 3) := by decide +kernel
theorem d_M_comes_56 : decode Y_M_comes.2.1 56 = .ok (.iconst 1, 1) := by decide +kernel
theorem d_M_comes_57 : decode Y_M_comes.2.1 57 = .ok (.goto 4, 3) := by decide +kernel
theorem d_M_comes_60 : decode Y_M_comes.2.1 60 = .ok (.iconst 0, 1) := by decide +kernel
theorem d_M_comes_61 : decode Y_M_comes.2.1 61 = .ok (.iastore, 1) := by decide +kernel
theorem d_M_comes_62 : decode Y_M_comes.2.1 62 = .ok (.goto 62, 3) := by decide +kernel
theorem d_M_comes_65 : decode Y_M_comes.2.1 65 = .ok (.iload_n 3, 1) := by decide +kernel
theorem d_M_comes_66 : decode Y_M_comes.2.1 66 = .ok (.invokestatic 192, 3) := by decide +kernel
theorem d_M_comes_69 : decode Y_M_comes.2.1 69 = .ok (.ifCond .eq 26, 3) := by decide +kernel
theorem d_M_comes_72 : decode Y_M_comes.2.1 72 = .ok (.aload_n 0, 1) := by decide +kernel
theorem d_M_comes_73 : decode Y_M_comes.2.1 73 = .ok (.getfield 70, 3) := by decide +kernel
theorem d_M_comes_76 : decode Y_M_comes.2.1 76 = .ok (.iload_n 1, 1) := by decide +kernel
theorem d_M_comes_77 : decode Y_M_comes.2.1 77 = .ok (.aload_n 0, 1) := by decide +kernel
theorem d_M_comes_78 : decode Y_M_comes.2.1 78 = .ok (.iload_n 3, 1) := by decide +kernel
theorem d_M_comes_79 : decode Y_M_comes.2.1 79 = .ok (.aload_n 0, 1) := by decide +kernel
theorem d_M_comes_80 : decode Y_M_comes.2.1 80 = .ok (.getfield 61, 3) := by decide +kernel
theorem d_M_comes_83 : decode Y_M_comes.2.1 83 = .ok (.iload_n 2, 1) := by decide +kernel
theorem d_M_comes_84 : decode Y_M_comes.2.1 84 = .ok (.iaload, 1) := by decide +kernel
theorem d_M_comes_85 : decode Y_M_comes.2.1 85 = .ok (.invokevirtual 331, 3) := by decide +kernel
theorem d_M_comes_88 : decode Y_M_comes.2.1 88 = .ok (.iastore, 1) := by decide +kernel
theorem d_M_comes_89 : decode Y_M_comes.2.1 89 = .ok (.iinc 1 1, 3) := by decide +kernel
theorem d_M_comes_92 : decode Y_M_comes.2.1 92 = .ok (.goto 32, 3) := by decide +kernel
theorem d_M_comes_95 : decode Y_M_comes.2.1 95 = .ok (.iinc 1 (-1), 3) := by decide +kernel
theorem d_M_comes_98 : decode Y_M_comes.2.1 98 = .ok (.aload_n 0, 1) := by decide +kernel
theorem d_M_comes_99 : decode Y_M_comes.2.1 99 = .ok (.getfield 70, 3) := by decide +kernel
theorem d_M_comes_102 : decode Y_M_comes.2.1 102 = .ok (.iload_n 1, 1) := by decide +kernel
theorem d_M_comes_103 : decode Y_M_comes.2.1 103 = .ok (.iconst 1, 1) := by decide +kernel
theorem d_M_comes_104 : decode Y_M_comes.2.1 104 = .ok (.isub, 1) := by decide +kernel
theorem d_M_comes_105 : decode Y_M_comes.2.1 105 = .ok (.iload_n 3, 1) := by decide +kernel
theorem d_M_comes_106 : decode Y_M_comes.2.1 106 = .ok (.aload_n 0, 1) := by decide +kernel
theorem d_M_comes_107 : decode Y_M_comes.2.1 107 = .ok (.getfield 70, 3) := by decide +kernel
theorem d_M_comes_110 : decode Y_M_comes.2.1 110 = .ok (.iload_n 1, 1) := by decide +kernel
theorem d_M_comes_111 : decode Y_M_comes.2.1 111 = .ok (.iconst 1, 1) := by decide +kernel
theorem d_M_comes_112 : decode Y_M_comes.2.1 112 = .ok (.isub, 1) := by decide +kernel
theorem d_M_comes_113 : decode Y_M_comes.2.1 113 = .ok (.iaload, 1) := by decide +kernel
theorem d_M_comes_114 : decode Y_M_comes.2.1 114 = .ok (.aload_n 0, 1) := by decide +kernel
theorem d_M_comes_115 : decode Y_M_comes.2.1 115 = .ok (.getfield 70, 3) := by decide +kernel
theorem d_M_comes_118 : decode Y_M_comes.2.1 118 = .ok (.iload_n 1, 1) := by decide +kernel
theorem d_M_comes_119 : decode Y_M_comes.2.1 119 = .ok (.iaload, 1) := by decide +kernel
theorem d_M_comes_120 : decode Y_M_comes.2.1 120 = .ok (.invokestatic 334, 3) := by decide +kernel
theorem d_M_comes_123 : decode Y_M_comes.2.1 123 = .ok (.iastore, 1) := by decide +kernel
theorem d_M_comes_124 : decode Y_M_comes.2.1 124 = .ok (.iinc 2 1, 3) := by decide +kernel
theorem d_M_comes_127 : decode Y_M_comes.2.1 127 = .ok (.goto (-115), 3) := by decide +kernel
theorem d_M_comes_130 : decode Y_M_comes.2.1 130 = .ok (.aload_n 0, 1) := by decide +kernel
theorem d_M_comes_131 : decode Y_M_comes.2.1 131 = .ok (.getfield 70, 3) := by decide +kernel
theorem d_M_comes_134 : decode Y_M_comes.2.1 134 = .ok (.iconst 0, 1) := by decide +kernel
theorem d_M_comes_135 : decode Y_M_comes.2.1 135 = .ok (.iaload, 1) := by decide +kernel
theorem d_M_comes_136 : decode Y_M_comes.2.1 136 = .ok (.ireturn, 1) := by decide +kernel
theorem e_M_comes {l : Launch} {G : GT} {d : Nat} {P : Int → MM → Prop} {m : MM}   (H : wfM m → (0 ≤ (m 70 28) ∧ (m 70 28) < (2 : Int)) ∧ (Wq l G false Y_M_comes d (QI P) 12 [(0, .inr (.inr 70)), (1, .inl 0), (2, .inl (m 82 (m 70 28)))] [] m)) : CI l G Y_M_comes d [.inr (.inr 70)] m P := by
  refine CI.of [(0, .inr (.inr 70))] k_M_comes.1 (Nat.le_of_ble_eq_true rfl) rfl (Wp.wf (fun hw _ hl hs => ?_))
  have H0 := H hw
  refine Wp.iconst d_M_comes_0 (by decide) ?_
  refine Wp.istore_n 1 [(0, .inr (.inr 70)), (1, .inl 0)] d_M_comes_1 rfl (by decide) rfl ?_
  refine Wp.aload_n 0 0 d_M_comes_2 rfl rfl ?_
  refine Wp.getP 82 d_M_comes_3 fl_M_48 rfl rfl rfl ?_
  refine Wp.aload_n 0 0 d_M_comes_6 rfl rfl ?_
  refine Wq.getI 28 rfl d_M_comes_7 fl_M_243 rfl (Or.inl rfl) ?_
  obtain ⟨s1, H2⟩ := H0
  refine Wp.iald d_M_comes_10 rfl (Or.inl rfl) s1.1 s1.2 ?_
  refine Wp.istore_n 2 [(0, .inr (.inr 70)), (1, .inl 0), (2, .inl (m 82 (m 70 28)))] d_M_comes_11 rfl (by decide) rfl ?_
  exact H2
theorem s_M_comes_12 {l : Launch} {G : GT} {d : Nat} {P : Int → MM → Prop} {m : MM} (x1 : Int) (x2 : Int)  (H : wfM m → inR x1 → inR x2 → (0 ≤ (m 70 28) ∧ (m 70 28) < (2 : Int)) ∧ ((x2 ≥ (m 83 (m 70 28)) → (P (m 89 0) m)) ∧ (¬ (x2 ≥ (m 83 (m 70 28))) → ((0 ≤ x2 ∧ x2 < (1120 : Int)) ∧ (((m 85 x2) ≠ 126 → (∃ (e15 : Nat) (P16 : Int → MM → Prop), e15 < d ∧ CI l G Y_M_isLetter e15 [.inl (m 85 x2)] m P16 ∧ (∀ z21 m22, P16 z21 m22 → inR z21 → wfM m22 → ((z21 = 0 → ((inR (x1 + (-1))) ∧ ((inR ((x1 + (-1)) - 1)) ∧ ((inR ((x1 + (-1)) - 1)) ∧ ((0 ≤ ((x1 + (-1)) - 1) ∧ ((x1 + (-1)) - 1) < (60 : Int)) ∧ ((0 ≤ (x1 + (-1)) ∧ (x1 + (-1)) < (60 : Int)) ∧ (∃ (e41 : Nat) (P42 : Int → MM → Prop), e41 < d ∧ CI l G Y_M_two e41 [.inl (m 85 x2), .inl (m22 89 ((x1 + (-1)) - 1)), .inl (m22 89 (x1 + (-1)))] m22 P42 ∧ (∀ z47 m48, P42 z47 m48 → inR z47 → wfM m48 → ((0 ≤ ((x1 + (-1)) - 1) ∧ ((x1 + (-1)) - 1) < (60 : Int)) ∧ (∀ m52, m52 = up m48 89 ((x1 + (-1)) - 1) z47 → ((inR (x2 + 1)) ∧ (Wq l G false Y_M_comes d (QI P) 12 [(0, .inr (.inr 70)), (1, .inl (x1 + (-1))), (2, .inl (x2 + 1))] [] m52)))))))))))) ∧ (¬ (z21 = 0) → ((0 ≤ x2 ∧ x2 < (1120 : Int)) ∧ (∃ (e63 : Nat) (P64 : Int → MM → Prop), e63 < d ∧ CI l G Y_M_asked e63 [.inr (.inr 70), .inl (m 85 x2), .inl (m22 86 x2)] m22 P64 ∧ (∀ z69 m70, P64 z69 m70 → inR z69 → wfM m70 → ((0 ≤ x1 ∧ x1 < (60 : Int)) ∧ (∀ m74, m74 = up m70 89 x1 z69 → ((inR (x1 + 1)) ∧ ((inR (x2 + 1)) ∧ (Wq l G false Y_M_comes d (QI P) 12 [(0, .inr (.inr 70)), (1, .inl (x1 + 1)), (2, .inl (x2 + 1))] [] m74))))))))))))) ∧ (¬ ((m 85 x2) ≠ 126) → ((inR (x1 - 1)) ∧ ((inR (x1 - 1)) ∧ ((0 ≤ (x1 - 1) ∧ (x1 - 1) < (60 : Int)) ∧ (((m 89 (x1 - 1)) ≠ 0 → ((0 ≤ (x1 - 1) ∧ (x1 - 1) < (60 : Int)) ∧ (∀ m96, m96 = up m 89 (x1 - 1) 0 → ((inR (x2 + 1)) ∧ (Wq l G false Y_M_comes d (QI P) 12 [(0, .inr (.inr 70)), (1, .inl x1), (2, .inl (x2 + 1))] [] m96))))) ∧ (¬ ((m 89 (x1 - 1)) ≠ 0) → ((0 ≤ (x1 - 1) ∧ (x1 - 1) < (60 : Int)) ∧ (∀ m105, m105 = up m 89 (x1 - 1) 1 → ((inR (x2 + 1)) ∧ (Wq l G false Y_M_comes d (QI P) 12 [(0, .inr (.inr 70)), (1, .inl x1), (2, .inl (x2 + 1))] [] m105))))))))))))))) : Wq l G false Y_M_comes d (QI P) 12 [(0, .inr (.inr 70)), (1, .inl x1), (2, .inl x2)] [] m := by
  refine Wp.wf (fun hw _ hl hs => ?_)
  have H0 := H hw (hl _ (List.mem_of_getElem? (i := 1) rfl)) (hl _ (List.mem_of_getElem? (i := 2) rfl))
  refine Wp.iload_n 2 2 d_M_comes_12 rfl rfl ?_
  refine Wp.aload_n 0 0 d_M_comes_13 rfl rfl ?_
  refine Wp.getP 83 d_M_comes_14 fl_M_51 rfl rfl rfl ?_
  refine Wp.aload_n 0 0 d_M_comes_17 rfl rfl ?_
  refine Wq.getI 28 rfl d_M_comes_18 fl_M_243 rfl (Or.inl rfl) ?_
  obtain ⟨s1, H2⟩ := H0
  refine Wp.iald d_M_comes_21 rfl (Or.inl rfl) s1.1 s1.2 ?_
  obtain ⟨H4, H5⟩ := H2
  refine Wp.icmp_ge 130 d_M_comes_22 (by decide) (fun c3 => ?_) (fun c3 => ?_)
  · have H6 := H4 c3
    refine Wp.aload_n 0 0 d_M_comes_130 rfl rfl ?_
    refine Wp.getP 89 d_M_comes_131 fl_M_70 rfl rfl rfl ?_
    refine Wp.iconst d_M_comes_134 (by decide) ?_
    refine Wp.iald d_M_comes_135 rfl (Or.inl rfl) (by decide) (by decide) ?_
    exact Wq.iret d_M_comes_136 rfl H6
  · have H7 := H5 c3
    refine Wp.aload_n 0 0 d_M_comes_25 rfl rfl ?_
    refine Wp.getP 85 d_M_comes_26 fl_M_58 rfl rfl rfl ?_
    refine Wp.iload_n 2 2 d_M_comes_29 rfl rfl ?_
    obtain ⟨s8, H9⟩ := H7
    refine Wp.iald d_M_comes_30 rfl (Or.inl rfl) s8.1 s8.2 ?_
    refine Wp.istore_n 3 [(0, .inr (.inr 70)), (1, .inl x1), (2, .inl x2), (3, .inl (m 85 x2))] d_M_comes_31 rfl (by decide) rfl ?_
    refine Wp.iload_n 3 3 d_M_comes_32 rfl rfl ?_
    refine Wp.bipush d_M_comes_33 (by decide) (by decide) ?_
    obtain ⟨H11, H12⟩ := H9
    refine Wp.icmp_ne 65 d_M_comes_35 (by decide) (fun c10 => ?_) (fun c10 => ?_)
    · have H13 := H11 c10
      refine Wp.iload_n 3 3 d_M_comes_65 rfl rfl ?_
      obtain ⟨e15, P16, hd17, ho18, H19⟩ := H13
      refine Wq.SI (st := []) [.inl (m 85 x2)] d_M_comes_66 k_M_isLetter ml_M_192 rfl  (fun h => by cases h) (Nat.le_of_ble_eq_true rfl) hd17 ho18 (fun z21 m22 hp23 hz24 hw25 => ?_)
      have H20 := H19 z21 m22 hp23 hz24 hw25
      obtain ⟨H27, H28⟩ := H20
      refine Wp.if_eq 95 d_M_comes_69 (by decide) (fun c26 => ?_) (fun c26 => ?_)
      · have H29 := H27 c26
        obtain ⟨s31, H32⟩ := H29
        refine Wp.iinc 1 1 [(0, .inr (.inr 70)), (1, .inl (x1 + (-1))), (2, .inl x2), (3, .inl (m 85 x2))] d_M_comes_95 rfl s31 (by decide) rfl ?_
        refine Wp.aload_n 0 0 d_M_comes_98 rfl rfl ?_
        refine Wp.getP 89 d_M_comes_99 fl_M_70 rfl rfl rfl ?_
        refine Wp.iload_n 1 1 d_M_comes_102 rfl rfl ?_
        refine Wp.iconst d_M_comes_103 (by decide) ?_
        obtain ⟨s33, H34⟩ := H32
        refine Wp.isub d_M_comes_104 s33 ?_
        refine Wp.iload_n 3 3 d_M_comes_105 rfl rfl ?_
        refine Wp.aload_n 0 0 d_M_comes_106 rfl rfl ?_
        refine Wp.getP 89 d_M_comes_107 fl_M_70 rfl rfl rfl ?_
        refine Wp.iload_n 1 1 d_M_comes_110 rfl rfl ?_
        refine Wp.iconst d_M_comes_111 (by decide) ?_
        obtain ⟨s35, H36⟩ := H34
        refine Wp.isub d_M_comes_112 s35 ?_
        obtain ⟨s37, H38⟩ := H36
        refine Wp.iald d_M_comes_113 rfl (Or.inl rfl) s37.1 s37.2 ?_
        refine Wp.aload_n 0 0 d_M_comes_114 rfl rfl ?_
        refine Wp.getP 89 d_M_comes_115 fl_M_70 rfl rfl rfl ?_
        refine Wp.iload_n 1 1 d_M_comes_118 rfl rfl ?_
        obtain ⟨s39, H40⟩ := H38
        refine Wp.iald d_M_comes_119 rfl (Or.inl rfl) s39.1 s39.2 ?_
        obtain ⟨e41, P42, hd43, ho44, H45⟩ := H40
        refine Wq.SI (st := [.inl ((x1 + (-1)) - 1), .inr (.inr 89)]) [.inl (m 85 x2), .inl (m22 89 ((x1 + (-1)) - 1)), .inl (m22 89 (x1 + (-1)))] d_M_comes_120 k_M_two ml_M_334 rfl  (fun h => by cases h) (Nat.le_of_ble_eq_true rfl) hd43 ho44 (fun z47 m48 hp49 hz50 hw51 => ?_)
        have H46 := H45 z47 m48 hp49 hz50 hw51
        obtain ⟨s59, H60⟩ := H46
        refine Wq.iast d_M_comes_123 rfl s59.1 s59.2 (fun m52 hm53 => ?_)
        have H54 := H60 m52 hm53
        obtain ⟨s57, H58⟩ := H54
        refine Wp.iinc 2 2 [(0, .inr (.inr 70)), (1, .inl (x1 + (-1))), (2, .inl (x2 + 1)), (3, .inl (m 85 x2))] d_M_comes_124 rfl s57 (by decide) rfl ?_
        refine Wp.goto 12 d_M_comes_127 (by decide) ?_
        refine Wp.pick [0, 1, 2] [(0, .inr (.inr 70)), (1, .inl (x1 + (-1))), (2, .inl (x2 + 1))] rfl ?_
        exact H58
      · have H30 := H28 c26
        refine Wp.aload_n 0 0 d_M_comes_72 rfl rfl ?_
        refine Wp.getP 89 d_M_comes_73 fl_M_70 rfl rfl rfl ?_
        refine Wp.iload_n 1 1 d_M_comes_76 rfl rfl ?_
        refine Wp.aload_n 0 0 d_M_comes_77 rfl rfl ?_
        refine Wp.iload_n 3 3 d_M_comes_78 rfl rfl ?_
        refine Wp.aload_n 0 0 d_M_comes_79 rfl rfl ?_
        refine Wp.getP 86 d_M_comes_80 fl_M_61 rfl rfl rfl ?_
        refine Wp.iload_n 2 2 d_M_comes_83 rfl rfl ?_
        obtain ⟨s61, H62⟩ := H30
        refine Wp.iald d_M_comes_84 rfl (Or.inl rfl) s61.1 s61.2 ?_
        obtain ⟨e63, P64, hd65, ho66, H67⟩ := H62
        refine Wq.VI (st := [.inl x1, .inr (.inr 89)]) [.inl (m 85 x2), .inl (m22 86 x2)] d_M_comes_85 k_M_asked ml_M_331 rfl rfl rfl (fun h => by cases h) (Nat.le_of_ble_eq_true rfl) hd65 ho66 (fun z69 m70 hp71 hz72 hw73 => ?_)
        have H68 := H67 z69 m70 hp71 hz72 hw73
        obtain ⟨s83, H84⟩ := H68
        refine Wq.iast d_M_comes_88 rfl s83.1 s83.2 (fun m74 hm75 => ?_)
        have H76 := H84 m74 hm75
        obtain ⟨s79, H80⟩ := H76
        refine Wp.iinc 1 1 [(0, .inr (.inr 70)), (1, .inl (x1 + 1)), (2, .inl x2), (3, .inl (m 85 x2))] d_M_comes_89 rfl s79 (by decide) rfl ?_
        refine Wp.goto 124 d_M_comes_92 (by decide) ?_
        obtain ⟨s81, H82⟩ := H80
        refine Wp.iinc 2 2 [(0, .inr (.inr 70)), (1, .inl (x1 + 1)), (2, .inl (x2 + 1)), (3, .inl (m 85 x2))] d_M_comes_124 rfl s81 (by decide) rfl ?_
        refine Wp.goto 12 d_M_comes_127 (by decide) ?_
        refine Wp.pick [0, 1, 2] [(0, .inr (.inr 70)), (1, .inl (x1 + 1)), (2, .inl (x2 + 1))] rfl ?_
        exact H82
    · have H14 := H12 c10
      refine Wp.aload_n 0 0 d_M_comes_38 rfl rfl ?_
      refine Wp.getP 89 d_M_comes_39 fl_M_70 rfl rfl rfl ?_
      refine Wp.iload_n 1 1 d_M_comes_42 rfl rfl ?_
      refine Wp.iconst d_M_comes_43 (by decide) ?_
      obtain ⟨s85, H86⟩ := H14
      refine Wp.isub d_M_comes_44 s85 ?_
      refine Wp.aload_n 0 0 d_M_comes_45 rfl rfl ?_
      refine Wp.getP 89 d_M_comes_46 fl_M_70 rfl rfl rfl ?_
      refine Wp.iload_n 1 1 d_M_comes_49 rfl rfl ?_
      refine Wp.iconst d_M_comes_50 (by decide) ?_
      obtain ⟨s87, H88⟩ := H86
      refine Wp.isub d_M_comes_51 s87 ?_
      obtain ⟨s89, H90⟩ := H88
      refine Wp.iald d_M_comes_52 rfl (Or.inl rfl) s89.1 s89.2 ?_
      obtain ⟨H92, H93⟩ := H90
      refine Wp.if_ne 60 d_M_comes_53 (by decide) (fun c91 => ?_) (fun c91 => ?_)
      · have H94 := H92 c91
        refine Wp.iconst d_M_comes_60 (by decide) ?_
        obtain ⟨s103, H104⟩ := H94
        refine Wq.iast d_M_comes_61 rfl s103.1 s103.2 (fun m96 hm97 => ?_)
        have H98 := H104 m96 hm97
        refine Wp.goto 124 d_M_comes_62 (by decide) ?_
        obtain ⟨s101, H102⟩ := H98
        refine Wp.iinc 2 2 [(0, .inr (.inr 70)), (1, .inl x1), (2, .inl (x2 + 1)), (3, .inl (m 85 x2))] d_M_comes_124 rfl s101 (by decide) rfl ?_
        refine Wp.goto 12 d_M_comes_127 (by decide) ?_
        refine Wp.pick [0, 1, 2] [(0, .inr (.inr 70)), (1, .inl x1), (2, .inl (x2 + 1))] rfl ?_
        exact H102
      · have H95 := H93 c91
        refine Wp.iconst d_M_comes_56 (by decide) ?_
        refine Wp.goto 61 d_M_comes_57 (by decide) ?_
        obtain ⟨s112, H113⟩ := H95
        refine Wq.iast d_M_comes_61 rfl s112.1 s112.2 (fun m105 hm106 => ?_)
        have H107 := H113 m105 hm106
        refine Wp.goto 124 d_M_comes_62 (by decide) ?_
        obtain ⟨s110, H111⟩ := H107
        refine Wp.iinc 2 2 [(0, .inr (.inr 70)), (1, .inl x1), (2, .inl (x2 + 1)), (3, .inl (m 85 x2))] d_M_comes_124 rfl s110 (by decide) rfl ?_
        refine Wp.goto 12 d_M_comes_127 (by decide) ?_
        refine Wp.pick [0, 1, 2] [(0, .inr (.inr 70)), (1, .inl x1), (2, .inl (x2 + 1))] rfl ?_
        exact H111
theorem d_M_asked_0 : decode Y_M_asked.2.1 0 = .ok (.iload_n 1, 1) := by decide +kernel
theorem d_M_asked_1 : decode Y_M_asked.2.1 1 = .ok (.lookupswitch 77 #[(98, 55), (100, 69), (103, 43), (117, 64)], 43) := by decide +kernel
theorem d_M_asked_44 : decode Y_M_asked.2.1 44 = .ok (.aload_n 0, 1) := by decide +kernel
theorem d_M_asked_45 : decode Y_M_asked.2.1 45 = .ok (.getfield 73, 3) := by decide +kernel
theorem d_M_asked_48 : decode Y_M_asked.2.1 48 = .ok (.iconst 0, 1) := by decide +kernel
theorem d_M_asked_49 : decode Y_M_asked.2.1 49 = .ok (.aload_n 0, 1) := by decide +kernel
theorem d_M_asked_50 : decode Y_M_asked.2.1 50 = .ok (.getfield 325, 3) := by decide +kernel
theorem d_M_asked_53 : decode Y_M_asked.2.1 53 = .ok (.iadd, 1) := by decide +kernel
theorem d_M_asked_54 : decode Y_M_asked.2.1 54 = .ok (.iaload, 1) := by decide +kernel
theorem d_M_asked_55 : decode Y_M_asked.2.1 55 = .ok (.ireturn, 1) := by decide +kernel
theorem d_M_asked_56 : decode Y_M_asked.2.1 56 = .ok (.aload_n 0, 1) := by decide +kernel
theorem d_M_asked_57 : decode Y_M_asked.2.1 57 = .ok (.aload_n 0, 1) := by decide +kernel
theorem d_M_asked_58 : decode Y_M_asked.2.1 58 = .ok (.getfield 325, 3) := by decide +kernel
theorem d_M_asked_61 : decode Y_M_asked.2.1 61 = .ok (.invokevirtual 328, 3) := by decide +kernel
theorem d_M_asked_64 : decode Y_M_asked.2.1 64 = .ok (.ireturn, 1) := by decide +kernel
theorem d_M_asked_65 : decode Y_M_asked.2.1 65 = .ok (.aload_n 0, 1) := by decide +kernel
theorem d_M_asked_66 : decode Y_M_asked.2.1 66 = .ok (.getfield 325, 3) := by decide +kernel
theorem d_M_asked_69 : decode Y_M_asked.2.1 69 = .ok (.ireturn, 1) := by decide +kernel
theorem d_M_asked_70 : decode Y_M_asked.2.1 70 = .ok (.aload_n 0, 1) := by decide +kernel
theorem d_M_asked_71 : decode Y_M_asked.2.1 71 = .ok (.getfield 73, 3) := by decide +kernel
theorem d_M_asked_74 : decode Y_M_asked.2.1 74 = .ok (.bipush 6, 2) := by decide +kernel
theorem d_M_asked_76 : decode Y_M_asked.2.1 76 = .ok (.iaload, 1) := by decide +kernel
theorem d_M_asked_77 : decode Y_M_asked.2.1 77 = .ok (.ireturn, 1) := by decide +kernel
theorem d_M_asked_78 : decode Y_M_asked.2.1 78 = .ok (.iload_n 2, 1) := by decide +kernel
theorem d_M_asked_79 : decode Y_M_asked.2.1 79 = .ok (.ireturn, 1) := by decide +kernel
theorem e_M_asked {l : Launch} {G : GT} {d : Nat} {P : Int → MM → Prop} {m : MM} (x1 : Int) (x2 : Int)  (H : wfM m → inR x1 → inR x2 → (x1 = 98 → (∃ (e5 : Nat) (P6 : Int → MM → Prop), e5 < d ∧ CI l G Y_M_brimOf e5 [.inr (.inr 70), .inl (m 70 34)] m P6 ∧ (∀ z11 m12, P6 z11 m12 → inR z11 → wfM m12 → (P z11 m12)))) ∧ (x1 = 100 → (P (m 90 6) m)) ∧ (x1 = 103 → ((inR (0 + (m 70 34))) ∧ ((0 ≤ (0 + (m 70 34)) ∧ (0 + (m 70 34)) < (8 : Int)) ∧ (P (m 90 (0 + (m 70 34))) m)))) ∧ (x1 = 117 → (P (m 70 34) m)) ∧ (¬ (x1 = 98) → ¬ (x1 = 100) → ¬ (x1 = 103) → ¬ (x1 = 117) → (P x2 m))) : CI l G Y_M_asked d [.inr (.inr 70), .inl x1, .inl x2] m P := by
  refine CI.of [(0, .inr (.inr 70)), (1, .inl x1), (2, .inl x2)] k_M_asked.1 (Nat.le_of_ble_eq_true rfl) rfl (Wp.wf (fun hw _ hl hs => ?_))
  have H0 := H hw (hl _ (List.mem_of_getElem? (i := 1) rfl)) (hl _ (List.mem_of_getElem? (i := 2) rfl))
  refine Wp.iload_n 1 1 d_M_asked_0 rfl rfl ?_
  obtain ⟨H1, H2⟩ := H0
  by_cases c3 : x1 = 98
  · have H4 := H1 c3
    refine Wp.lks 56 d_M_asked_1 (by decide) (off := 55) (by rw [c3]; rfl) (by decide) ?_
    refine Wp.aload_n 0 0 d_M_asked_56 rfl rfl ?_
    refine Wp.aload_n 0 0 d_M_asked_57 rfl rfl ?_
    refine Wq.getI 34 rfl d_M_asked_58 fl_M_325 rfl (Or.inl rfl) ?_
    obtain ⟨e5, P6, hd7, ho8, H9⟩ := H4
    refine Wq.VI (st := []) [.inl (m 70 34)] d_M_asked_61 k_M_brimOf ml_M_328 rfl rfl rfl (fun h => by cases h) (Nat.le_of_ble_eq_true rfl) hd7 ho8 (fun z11 m12 hp13 hz14 hw15 => ?_)
    have H10 := H9 z11 m12 hp13 hz14 hw15
    exact Wq.iret d_M_asked_64 rfl H10
  obtain ⟨H16, H17⟩ := H2
  by_cases c18 : x1 = 100
  · have H19 := H16 c18
    refine Wp.lks 70 d_M_asked_1 (by decide) (off := 69) (by rw [c18]; rfl) (by decide) ?_
    refine Wp.aload_n 0 0 d_M_asked_70 rfl rfl ?_
    refine Wp.getP 90 d_M_asked_71 fl_M_73 rfl rfl rfl ?_
    refine Wp.bipush d_M_asked_74 (by decide) (by decide) ?_
    refine Wp.iald d_M_asked_76 rfl (Or.inl rfl) (by decide) (by decide) ?_
    exact Wq.iret d_M_asked_77 rfl H19
  obtain ⟨H20, H21⟩ := H17
  by_cases c22 : x1 = 103
  · have H23 := H20 c22
    refine Wp.lks 44 d_M_asked_1 (by decide) (off := 43) (by rw [c22]; rfl) (by decide) ?_
    refine Wp.aload_n 0 0 d_M_asked_44 rfl rfl ?_
    refine Wp.getP 90 d_M_asked_45 fl_M_73 rfl rfl rfl ?_
    refine Wp.iconst d_M_asked_48 (by decide) ?_
    refine Wp.aload_n 0 0 d_M_asked_49 rfl rfl ?_
    refine Wq.getI 34 rfl d_M_asked_50 fl_M_325 rfl (Or.inl rfl) ?_
    obtain ⟨s24, H25⟩ := H23
    refine Wp.iadd d_M_asked_53 s24 ?_
    obtain ⟨s26, H27⟩ := H25
    refine Wp.iald d_M_asked_54 rfl (Or.inl rfl) s26.1 s26.2 ?_
    exact Wq.iret d_M_asked_55 rfl H27
  obtain ⟨H28, H29⟩ := H21
  by_cases c30 : x1 = 117
  · have H31 := H28 c30
    refine Wp.lks 65 d_M_asked_1 (by decide) (off := 64) (by rw [c30]; rfl) (by decide) ?_
    refine Wp.aload_n 0 0 d_M_asked_65 rfl rfl ?_
    refine Wq.getI 34 rfl d_M_asked_66 fl_M_325 rfl (Or.inl rfl) ?_
    exact Wq.iret d_M_asked_69 rfl H31
  have H32 := H29 c3 c18 c22 c30
  refine Wp.lks 78 d_M_asked_1 (by decide) (off := 77) (by simp only [Op.lookupswitch.offset]; simp [Ne.symm c3, c3, Ne.symm c18, c18, Ne.symm c22, c22, Ne.symm c30, c30]) (by decide) ?_
  refine Wp.iload_n 2 2 d_M_asked_78 rfl rfl ?_
  exact Wq.iret d_M_asked_79 rfl H32
theorem d_M_two_0 : decode Y_M_two.2.1 0 = .ok (.iload_n 0, 1) := by decide +kernel
theorem d_M_two_1 : decode Y_M_two.2.1 1 = .ok (.tableswitch 202 37 62 #[143, 188, 202, 202, 202, 127, 119, 202, 123, 202, 131, 202, 202, 202, 202, 202, 202, 202, 202, 202, 202, 202, 202, 155, 177, 166], 119) := by decide +kernel
theorem d_M_two_120 : decode Y_M_two.2.1 120 = .ok (.iload_n 1, 1) := by decide +kernel
theorem d_M_two_121 : decode Y_M_two.2.1 121 = .ok (.iload_n 2, 1) := by decide +kernel
theorem d_M_two_122 : decode Y_M_two.2.1 122 = .ok (.iadd, 1) := by decide +kernel
theorem d_M_two_123 : decode Y_M_two.2.1 123 = .ok (.ireturn, 1) := by decide +kernel
theorem d_M_two_124 : decode Y_M_two.2.1 124 = .ok (.iload_n 1, 1) := by decide +kernel
theorem d_M_two_125 : decode Y_M_two.2.1 125 = .ok (.iload_n 2, 1) := by decide +kernel
theorem d_M_two_126 : decode Y_M_two.2.1 126 = .ok (.isub, 1) := by decide +kernel
theorem d_M_two_127 : decode Y_M_two.2.1 127 = .ok (.ireturn, 1) := by decide +kernel
theorem d_M_two_128 : decode Y_M_two.2.1 128 = .ok (.iload_n 1, 1) := by decide +kernel
theorem d_M_two_129 : decode Y_M_two.2.1 129 = .ok (.iload_n 2, 1) := by decide +kernel
theorem d_M_two_130 : decode Y_M_two.2.1 130 = .ok (.imul, 1) := by decide +kernel
theorem d_M_two_131 : decode Y_M_two.2.1 131 = .ok (.ireturn, 1) := by decide +kernel
theorem d_M_two_132 : decode Y_M_two.2.1 132 = .ok (.iload_n 2, 1) := by decide +kernel
theorem d_M_two_133 : decode Y_M_two.2.1 133 = .ok (.ifCond .ne 7, 3) := by decide +kernel
theorem d_M_two_136 : decode Y_M_two.2.1 136 = .ok (.iconst 0, 1) := by decide +kernel
theorem d_M_two_137 : decode Y_M_two.2.1 137 = .ok (.goto 6, 3) := by decide +kernel
theorem d_M_two_140 : decode Y_M_two.2.1 140 = .ok (.iload_n 1, 1) := by decide +kernel
theorem d_M_two_141 : decode Y_M_two.2.1 141 = .ok (.iload_n 2, 1) := by decide +kernel
theorem d_M_two_142 : decode Y_M_two.2.1 142 = .ok (.idiv, 1) := by decide +kernel
theorem d_M_two_143 : decode Y_M_two.2.1 143 = .ok (.ireturn, 1) := by decide +kernel
theorem d_M_two_144 : decode Y_M_two.2.1 144 = .ok (.iload_n 2, 1) := by decide +kernel
theorem d_M_two_145 : decode Y_M_two.2.1 145 = .ok (.ifCond .ne 7, 3) := by decide +kernel
theorem d_M_two_148 : decode Y_M_two.2.1 148 = .ok (.iconst 0, 1) := by decide +kernel
theorem d_M_two_149 : decode Y_M_two.2.1 149 = .ok (.goto 6, 3) := by decide +kernel
theorem d_M_two_152 : decode Y_M_two.2.1 152 = .ok (.iload_n 1, 1) := by decide +kernel
theorem d_M_two_153 : decode Y_M_two.2.1 153 = .ok (.iload_n 2, 1) := by decide +kernel
theorem d_M_two_154 : decode Y_M_two.2.1 154 = .ok (.irem, 1) := by decide +kernel
theorem d_M_two_155 : decode Y_M_two.2.1 155 = .ok (.ireturn, 1) := by decide +kernel
theorem d_M_two_156 : decode Y_M_two.2.1 156 = .ok (.iload_n 1, 1) := by decide +kernel
theorem d_M_two_157 : decode Y_M_two.2.1 157 = .ok (.iload_n 2, 1) := by decide +kernel
theorem d_M_two_158 : decode Y_M_two.2.1 158 = .ok (.if_icmp .ge 7, 3) := by decide +kernel
theorem d_M_two_161 : decode Y_M_two.2.1 161 = .ok (.iconst 1, 1) := by decide +kernel
theorem d_M_two_162 : decode Y_M_two.2.1 162 = .ok (.goto 4, 3) := by decide +kernel
theorem d_M_two_165 : decode Y_M_two.2.1 165 = .ok (.iconst 0, 1) := by decide +kernel
theorem d_M_two_166 : decode Y_M_two.2.1 166 = .ok (.ireturn, 1) := by decide +kernel
theorem d_M_two_167 : decode Y_M_two.2.1 167 = .ok (.iload_n 1, 1) := by decide +kernel
theorem d_M_two_168 : decode Y_M_two.2.1 168 = .ok (.iload_n 2, 1) := by decide +kernel
theorem d_M_two_169 : decode Y_M_two.2.1 169 = .ok (.if_icmp .le 7, 3) := by decide +kernel
theorem d_M_two_172 : decode Y_M_two.2.1 172 = .ok (.iconst 1, 1) := by decide +kernel
theorem d_M_two_173 : decode Y_M_two.2.1 173 = .ok (.goto 4, 3) := by decide +kernel
theorem d_M_two_176 : decode Y_M_two.2.1 176 = .ok (.iconst 0, 1) := by decide +kernel
theorem d_M_two_177 : decode Y_M_two.2.1 177 = .ok (.ireturn, 1) := by decide +kernel
theorem d_M_two_178 : decode Y_M_two.2.1 178 = .ok (.iload_n 1, 1) := by decide +kernel
theorem d_M_two_179 : decode Y_M_two.2.1 179 = .ok (.iload_n 2, 1) := by decide +kernel
theorem d_M_two_180 : decode Y_M_two.2.1 180 = .ok (.if_icmp .ne 7, 3) := by decide +kernel
theorem d_M_two_183 : decode Y_M_two.2.1 183 = .ok (.iconst 1, 1) := by decide +kernel
theorem d_M_two_184 : decode Y_M_two.2.1 184 = .ok (.goto 4, 3) := by decide +kernel
theorem d_M_two_187 : decode Y_M_two.2.1 187 = .ok (.iconst 0, 1) := by decide +kernel
theorem d_M_two_188 : decode Y_M_two.2.1 188 = .ok (.ireturn, 1) := by decide +kernel
theorem d_M_two_189 : decode Y_M_two.2.1 189 = .ok (.iload_n 1, 1) := by decide +kernel
theorem d_M_two_190 : decode Y_M_two.2.1 190 = .ok (.ifCond .eq 11, 3) := by decide +kernel
theorem d_M_two_193 : decode Y_M_two.2.1 193 = .ok (.iload_n 2, 1) := by decide +kernel
theorem d_M_two_194 : decode Y_M_two.2.1 194 = .ok (.ifCond .eq 7, 3) := by decide +kernel
theorem d_M_two_197 : decode Y_M_two.2.1 197 = .ok (.iconst 1, 1) := by decide +kernel
theorem d_M_two_198 : decode Y_M_two.2.1 198 = .ok (.goto 4, 3) := by decide +kernel
theorem d_M_two_201 : decode Y_M_two.2.1 201 = .ok (.iconst 0, 1) := by decide +kernel
theorem d_M_two_202 : decode Y_M_two.2.1 202 = .ok (.ireturn, 1) := by decide +kernel
theorem d_M_two_203 : decode Y_M_two.2.1 203 = .ok (.iload_n 1, 1) := by decide +kernel
theorem d_M_two_204 : decode Y_M_two.2.1 204 = .ok (.ifCond .ne 7, 3) := by decide +kernel
theorem d_M_two_207 : decode Y_M_two.2.1 207 = .ok (.iload_n 2, 1) := by decide +kernel
theorem d_M_two_208 : decode Y_M_two.2.1 208 = .ok (.ifCond .eq 7, 3) := by decide +kernel
theorem d_M_two_211 : decode Y_M_two.2.1 211 = .ok (.iconst 1, 1) := by decide +kernel
theorem d_M_two_212 : decode Y_M_two.2.1 212 = .ok (.goto 4, 3) := by decide +kernel
theorem d_M_two_215 : decode Y_M_two.2.1 215 = .ok (.iconst 0, 1) := by decide +kernel
theorem d_M_two_216 : decode Y_M_two.2.1 216 = .ok (.ireturn, 1) := by decide +kernel
theorem e_M_two {l : Launch} {G : GT} {d : Nat} {P : Int → MM → Prop} {m : MM} (x0 : Int) (x1 : Int) (x2 : Int)  (H : wfM m → inR x0 → inR x1 → inR x2 → (x0 = 37 → ((x2 ≠ 0 → ((x2 ≠ 0) ∧ (P (Int.tmod x1 x2) m))) ∧ (¬ (x2 ≠ 0) → (P 0 m)))) ∧ (x0 = 38 → ((x1 = 0 → (P 0 m)) ∧ (¬ (x1 = 0) → ((x2 = 0 → (P 0 m)) ∧ (¬ (x2 = 0) → (P 1 m)))))) ∧ (x0 = 42 → (P (w32 (x1 * x2)) m)) ∧ (x0 = 43 → (P (w32 (x1 + x2)) m)) ∧ (x0 = 45 → (P (w32 (x1 - x2)) m)) ∧ (x0 = 47 → ((x2 ≠ 0 → ((x2 ≠ 0) ∧ (P (w32 (Int.tdiv x1 x2)) m))) ∧ (¬ (x2 ≠ 0) → (P 0 m)))) ∧ (x0 = 60 → ((x1 ≥ x2 → (P 0 m)) ∧ (¬ (x1 ≥ x2) → (P 1 m)))) ∧ (x0 = 61 → ((x1 ≠ x2 → (P 0 m)) ∧ (¬ (x1 ≠ x2) → (P 1 m)))) ∧ (x0 = 62 → ((x1 ≤ x2 → (P 0 m)) ∧ (¬ (x1 ≤ x2) → (P 1 m)))) ∧ (¬ (x0 = 37) → ¬ (x0 = 38) → ¬ (x0 = 42) → ¬ (x0 = 43) → ¬ (x0 = 45) → ¬ (x0 = 47) → ¬ (x0 = 60) → ¬ (x0 = 61) → ¬ (x0 = 62) → ((x1 ≠ 0 → (P 1 m)) ∧ (¬ (x1 ≠ 0) → ((x2 = 0 → (P 0 m)) ∧ (¬ (x2 = 0) → (P 1 m))))))) : CI l G Y_M_two d [.inl x0, .inl x1, .inl x2] m P := by
  refine CI.of [(0, .inl x0), (1, .inl x1), (2, .inl x2)] k_M_two.1 (Nat.le_of_ble_eq_true rfl) rfl (Wp.wf (fun hw _ hl hs => ?_))
  have H0 := H hw (hl _ (List.mem_of_getElem? (i := 0) rfl)) (hl _ (List.mem_of_getElem? (i := 1) rfl)) (hl _ (List.mem_of_getElem? (i := 2) rfl))
  refine Wp.iload_n 0 0 d_M_two_0 rfl rfl ?_
  obtain ⟨H1, H2⟩ := H0
  by_cases c3 : x0 = 37
  · have H4 := H1 c3
    refine Wp.tin (off := 143) 37 144 d_M_two_1 c3 (by decide +kernel) (by decide +kernel) (by decide +kernel) (by decide +kernel) ?_
    refine Wp.iload_n 2 2 d_M_two_144 rfl rfl ?_
    obtain ⟨H6, H7⟩ := H4
    refine Wp.if_ne 152 d_M_two_145 (by decide) (fun c5 => ?_) (fun c5 => ?_)
    · have H8 := H6 c5
      refine Wp.iload_n 1 1 d_M_two_152 rfl rfl ?_
      refine Wp.iload_n 2 2 d_M_two_153 rfl rfl ?_
      obtain ⟨s10, H11⟩ := H8
      refine Wq.irem d_M_two_154 s10 ?_
      exact Wq.iret d_M_two_155 rfl H11
    · have H9 := H7 c5
      refine Wp.iconst d_M_two_148 (by decide) ?_
      refine Wp.goto 155 d_M_two_149 (by decide) ?_
      exact Wq.iret d_M_two_155 rfl H9
  obtain ⟨H12, H13⟩ := H2
  by_cases c14 : x0 = 38
  · have H15 := H12 c14
    refine Wp.tin (off := 188) 38 189 d_M_two_1 c14 (by decide +kernel) (by decide +kernel) (by decide +kernel) (by decide +kernel) ?_
    refine Wp.iload_n 1 1 d_M_two_189 rfl rfl ?_
    obtain ⟨H17, H18⟩ := H15
    refine Wp.if_eq 201 d_M_two_190 (by decide) (fun c16 => ?_) (fun c16 => ?_)
    · have H19 := H17 c16
      refine Wp.iconst d_M_two_201 (by decide) ?_
      exact Wq.iret d_M_two_202 rfl H19
    · have H20 := H18 c16
      refine Wp.iload_n 2 2 d_M_two_193 rfl rfl ?_
      obtain ⟨H22, H23⟩ := H20
      refine Wp.if_eq 201 d_M_two_194 (by decide) (fun c21 => ?_) (fun c21 => ?_)
      · have H24 := H22 c21
        refine Wp.iconst d_M_two_201 (by decide) ?_
        exact Wq.iret d_M_two_202 rfl H24
      · have H25 := H23 c21
        refine Wp.iconst d_M_two_197 (by decide) ?_
        refine Wp.goto 202 d_M_two_198 (by decide) ?_
        exact Wq.iret d_M_two_202 rfl H25
  obtain ⟨H26, H27⟩ := H13
  by_cases c28 : x0 = 42
  · have H29 := H26 c28
    refine Wp.tin (off := 127) 42 128 d_M_two_1 c28 (by decide +kernel) (by decide +kernel) (by decide +kernel) (by decide +kernel) ?_
    refine Wp.iload_n 1 1 d_M_two_128 rfl rfl ?_
    refine Wp.iload_n 2 2 d_M_two_129 rfl rfl ?_
    refine Wp.imulw d_M_two_130 ?_
    exact Wq.iret d_M_two_131 rfl H29
  obtain ⟨H30, H31⟩ := H27
  by_cases c32 : x0 = 43
  · have H33 := H30 c32
    refine Wp.tin (off := 119) 43 120 d_M_two_1 c32 (by decide +kernel) (by decide +kernel) (by decide +kernel) (by decide +kernel) ?_
    refine Wp.iload_n 1 1 d_M_two_120 rfl rfl ?_
    refine Wp.iload_n 2 2 d_M_two_121 rfl rfl ?_
    refine Wp.iaddw d_M_two_122 ?_
    exact Wq.iret d_M_two_123 rfl H33
  obtain ⟨H34, H35⟩ := H31
  by_cases c36 : x0 = 45
  · have H37 := H34 c36
    refine Wp.tin (off := 123) 45 124 d_M_two_1 c36 (by decide +kernel) (by decide +kernel) (by decide +kernel) (by decide +kernel) ?_
    refine Wp.iload_n 1 1 d_M_two_124 rfl rfl ?_
    refine Wp.iload_n 2 2 d_M_two_125 rfl rfl ?_
    refine Wp.isubw d_M_two_126 ?_
    exact Wq.iret d_M_two_127 rfl H37
  obtain ⟨H38, H39⟩ := H35
  by_cases c40 : x0 = 47
  · have H41 := H38 c40
    refine Wp.tin (off := 131) 47 132 d_M_two_1 c40 (by decide +kernel) (by decide +kernel) (by decide +kernel) (by decide +kernel) ?_
    refine Wp.iload_n 2 2 d_M_two_132 rfl rfl ?_
    obtain ⟨H43, H44⟩ := H41
    refine Wp.if_ne 140 d_M_two_133 (by decide) (fun c42 => ?_) (fun c42 => ?_)
    · have H45 := H43 c42
      refine Wp.iload_n 1 1 d_M_two_140 rfl rfl ?_
      refine Wp.iload_n 2 2 d_M_two_141 rfl rfl ?_
      obtain ⟨s47, H48⟩ := H45
      refine Wp.idiv d_M_two_142 s47 ?_
      exact Wq.iret d_M_two_143 rfl H48
    · have H46 := H44 c42
      refine Wp.iconst d_M_two_136 (by decide) ?_
      refine Wp.goto 143 d_M_two_137 (by decide) ?_
      exact Wq.iret d_M_two_143 rfl H46
  obtain ⟨H49, H50⟩ := H39
  by_cases c51 : x0 = 60
  · have H52 := H49 c51
    refine Wp.tin (off := 155) 60 156 d_M_two_1 c51 (by decide +kernel) (by decide +kernel) (by decide +kernel) (by decide +kernel) ?_
    refine Wp.iload_n 1 1 d_M_two_156 rfl rfl ?_
    refine Wp.iload_n 2 2 d_M_two_157 rfl rfl ?_
    obtain ⟨H54, H55⟩ := H52
    refine Wp.icmp_ge 165 d_M_two_158 (by decide) (fun c53 => ?_) (fun c53 => ?_)
    · have H56 := H54 c53
      refine Wp.iconst d_M_two_165 (by decide) ?_
      exact Wq.iret d_M_two_166 rfl H56
    · have H57 := H55 c53
      refine Wp.iconst d_M_two_161 (by decide) ?_
      refine Wp.goto 166 d_M_two_162 (by decide) ?_
      exact Wq.iret d_M_two_166 rfl H57
  obtain ⟨H58, H59⟩ := H50
  by_cases c60 : x0 = 61
  · have H61 := H58 c60
    refine Wp.tin (off := 177) 61 178 d_M_two_1 c60 (by decide +kernel) (by decide +kernel) (by decide +kernel) (by decide +kernel) ?_
    refine Wp.iload_n 1 1 d_M_two_178 rfl rfl ?_
    refine Wp.iload_n 2 2 d_M_two_179 rfl rfl ?_
    obtain ⟨H63, H64⟩ := H61
    refine Wp.icmp_ne 187 d_M_two_180 (by decide) (fun c62 => ?_) (fun c62 => ?_)
    · have H65 := H63 c62
      refine Wp.iconst d_M_two_187 (by decide) ?_
      exact Wq.iret d_M_two_188 rfl H65
    · have H66 := H64 c62
      refine Wp.iconst d_M_two_183 (by decide) ?_
      refine Wp.goto 188 d_M_two_184 (by decide) ?_
      exact Wq.iret d_M_two_188 rfl H66
  obtain ⟨H67, H68⟩ := H59
  by_cases c69 : x0 = 62
  · have H70 := H67 c69
    refine Wp.tin (off := 166) 62 167 d_M_two_1 c69 (by decide +kernel) (by decide +kernel) (by decide +kernel) (by decide +kernel) ?_
    refine Wp.iload_n 1 1 d_M_two_167 rfl rfl ?_
    refine Wp.iload_n 2 2 d_M_two_168 rfl rfl ?_
    obtain ⟨H72, H73⟩ := H70
    refine Wp.icmp_le 176 d_M_two_169 (by decide) (fun c71 => ?_) (fun c71 => ?_)
    · have H74 := H72 c71
      refine Wp.iconst d_M_two_176 (by decide) ?_
      exact Wq.iret d_M_two_177 rfl H74
    · have H75 := H73 c71
      refine Wp.iconst d_M_two_172 (by decide) ?_
      refine Wp.goto 177 d_M_two_173 (by decide) ?_
      exact Wq.iret d_M_two_177 rfl H75
  have H76 := H68 c3 c14 c28 c32 c36 c40 c51 c60 c69
  have hd87 : Wq l G false Y_M_two d (QI P) 203 [(0, .inl x0), (1, .inl x1), (2, .inl x2)] [] m := by
    refine Wp.iload_n 1 1 d_M_two_203 rfl rfl ?_
    obtain ⟨H78, H79⟩ := H76
    refine Wp.if_ne 211 d_M_two_204 (by decide) (fun c77 => ?_) (fun c77 => ?_)
    · have H80 := H78 c77
      refine Wp.iconst d_M_two_211 (by decide) ?_
      refine Wp.goto 216 d_M_two_212 (by decide) ?_
      exact Wq.iret d_M_two_216 rfl H80
    · have H81 := H79 c77
      refine Wp.iload_n 2 2 d_M_two_207 rfl rfl ?_
      obtain ⟨H83, H84⟩ := H81
      refine Wp.if_eq 215 d_M_two_208 (by decide) (fun c82 => ?_) (fun c82 => ?_)
      · have H85 := H83 c82
        refine Wp.iconst d_M_two_215 (by decide) ?_
        exact Wq.iret d_M_two_216 rfl H85
      · have H86 := H84 c82
        refine Wp.iconst d_M_two_211 (by decide) ?_
        refine Wp.goto 216 d_M_two_212 (by decide) ?_
        exact Wq.iret d_M_two_216 rfl H86
  by_cases c88 : x0 = 39
  · exact Wp.tin (off := 202) 39 203 d_M_two_1 c88 (by decide +kernel) (by decide +kernel) (by decide +kernel) (by decide +kernel) hd87
  by_cases c89 : x0 = 40
  · exact Wp.tin (off := 202) 40 203 d_M_two_1 c89 (by decide +kernel) (by decide +kernel) (by decide +kernel) (by decide +kernel) hd87
  by_cases c90 : x0 = 41
  · exact Wp.tin (off := 202) 41 203 d_M_two_1 c90 (by decide +kernel) (by decide +kernel) (by decide +kernel) (by decide +kernel) hd87
  by_cases c91 : x0 = 44
  · exact Wp.tin (off := 202) 44 203 d_M_two_1 c91 (by decide +kernel) (by decide +kernel) (by decide +kernel) (by decide +kernel) hd87
  by_cases c92 : x0 = 46
  · exact Wp.tin (off := 202) 46 203 d_M_two_1 c92 (by decide +kernel) (by decide +kernel) (by decide +kernel) (by decide +kernel) hd87
  by_cases c93 : x0 = 48
  · exact Wp.tin (off := 202) 48 203 d_M_two_1 c93 (by decide +kernel) (by decide +kernel) (by decide +kernel) (by decide +kernel) hd87
  by_cases c94 : x0 = 49
  · exact Wp.tin (off := 202) 49 203 d_M_two_1 c94 (by decide +kernel) (by decide +kernel) (by decide +kernel) (by decide +kernel) hd87
  by_cases c95 : x0 = 50
  · exact Wp.tin (off := 202) 50 203 d_M_two_1 c95 (by decide +kernel) (by decide +kernel) (by decide +kernel) (by decide +kernel) hd87
  by_cases c96 : x0 = 51
  · exact Wp.tin (off := 202) 51 203 d_M_two_1 c96 (by decide +kernel) (by decide +kernel) (by decide +kernel) (by decide +kernel) hd87
  by_cases c97 : x0 = 52
  · exact Wp.tin (off := 202) 52 203 d_M_two_1 c97 (by decide +kernel) (by decide +kernel) (by decide +kernel) (by decide +kernel) hd87
  by_cases c98 : x0 = 53
  · exact Wp.tin (off := 202) 53 203 d_M_two_1 c98 (by decide +kernel) (by decide +kernel) (by decide +kernel) (by decide +kernel) hd87
  by_cases c99 : x0 = 54
  · exact Wp.tin (off := 202) 54 203 d_M_two_1 c99 (by decide +kernel) (by decide +kernel) (by decide +kernel) (by decide +kernel) hd87
  by_cases c100 : x0 = 55
  · exact Wp.tin (off := 202) 55 203 d_M_two_1 c100 (by decide +kernel) (by decide +kernel) (by decide +kernel) (by decide +kernel) hd87
  by_cases c101 : x0 = 56
  · exact Wp.tin (off := 202) 56 203 d_M_two_1 c101 (by decide +kernel) (by decide +kernel) (by decide +kernel) (by decide +kernel) hd87
  by_cases c102 : x0 = 57
  · exact Wp.tin (off := 202) 57 203 d_M_two_1 c102 (by decide +kernel) (by decide +kernel) (by decide +kernel) (by decide +kernel) hd87
  by_cases c103 : x0 = 58
  · exact Wp.tin (off := 202) 58 203 d_M_two_1 c103 (by decide +kernel) (by decide +kernel) (by decide +kernel) (by decide +kernel) hd87
  by_cases c104 : x0 = 59
  · exact Wp.tin (off := 202) 59 203 d_M_two_1 c104 (by decide +kernel) (by decide +kernel) (by decide +kernel) (by decide +kernel) hd87
  have ho1 : x0 < 37 ∨ 62 < x0 := (lt_or_geI x0 37).elim Or.inl (fun h9 => Or.inr (Int.lt_of_lt_of_le (by decide +kernel) (ne_step (ne_step (ne_step (ne_step (ne_step (ne_step (ne_step (ne_step (ne_step (ne_step (ne_step (ne_step (ne_step (ne_step (ne_step (ne_step (ne_step (ne_step (ne_step (ne_step (ne_step (ne_step (ne_step (ne_step (ne_step (ne_step h9 c3) c14) c88) c89) c90) c28) c32) c91) c36) c92) c40) c93) c94) c95) c96) c97) c98) c99) c100) c101) c102) c103) c104) c51) c60) c69)))
  exact Wp.tout 203 d_M_two_1 ho1 (by decide +kernel) hd87
theorem d_M_held_0 : decode Y_M_held.2.1 0 = .ok (.iload_n 0, 1) := by decide +kernel
theorem d_M_held_1 : decode Y_M_held.2.1 1 = .ok (.iload_n 1, 1) := by decide +kernel
theorem d_M_held_2 : decode Y_M_held.2.1 2 = .ok (.if_icmp .ge 7, 3) := by decide +kernel
theorem d_M_held_5 : decode Y_M_held.2.1 5 = .ok (.iload_n 1, 1) := by decide +kernel
theorem d_M_held_6 : decode Y_M_held.2.1 6 = .ok (.goto 13, 3) := by decide +kernel
theorem d_M_held_9 : decode Y_M_held.2.1 9 = .ok (.iload_n 0, 1) := by decide +kernel
theorem d_M_held_10 : decode Y_M_held.2.1 10 = .ok (.iload_n 2, 1) := by decide +kernel
theorem d_M_held_11 : decode Y_M_held.2.1 11 = .ok (.if_icmp .le 7, 3) := by decide +kernel
theorem d_M_held_14 : decode Y_M_held.2.1 14 = .ok (.iload_n 2, 1) := by decide +kernel
theorem d_M_held_15 : decode Y_M_held.2.1 15 = .ok (.goto 4, 3) := by decide +kernel
theorem d_M_held_18 : decode Y_M_held.2.1 18 = .ok (.iload_n 0, 1) := by decide +kernel
theorem d_M_held_19 : decode Y_M_held.2.1 19 = .ok (.ireturn, 1) := by decide +kernel
theorem e_M_held {l : Launch} {G : GT} {d : Nat} {P : Int → MM → Prop} {m : MM} (x0 : Int) (x1 : Int) (x2 : Int)  (H : wfM m → inR x0 → inR x1 → inR x2 → (x0 ≥ x1 → ((x0 ≤ x2 → (P x0 m)) ∧ (¬ (x0 ≤ x2) → (P x2 m)))) ∧ (¬ (x0 ≥ x1) → (P x1 m))) : CI l G Y_M_held d [.inl x0, .inl x1, .inl x2] m P := by
  refine CI.of [(0, .inl x0), (1, .inl x1), (2, .inl x2)] k_M_held.1 (Nat.le_of_ble_eq_true rfl) rfl (Wp.wf (fun hw _ hl hs => ?_))
  have H0 := H hw (hl _ (List.mem_of_getElem? (i := 0) rfl)) (hl _ (List.mem_of_getElem? (i := 1) rfl)) (hl _ (List.mem_of_getElem? (i := 2) rfl))
  refine Wp.iload_n 0 0 d_M_held_0 rfl rfl ?_
  refine Wp.iload_n 1 1 d_M_held_1 rfl rfl ?_
  obtain ⟨H2, H3⟩ := H0
  refine Wp.icmp_ge 9 d_M_held_2 (by decide) (fun c1 => ?_) (fun c1 => ?_)
  · have H4 := H2 c1
    refine Wp.iload_n 0 0 d_M_held_9 rfl rfl ?_
    refine Wp.iload_n 2 2 d_M_held_10 rfl rfl ?_
    obtain ⟨H7, H8⟩ := H4
    refine Wp.icmp_le 18 d_M_held_11 (by decide) (fun c6 => ?_) (fun c6 => ?_)
    · have H9 := H7 c6
      refine Wp.iload_n 0 0 d_M_held_18 rfl rfl ?_
      exact Wq.iret d_M_held_19 rfl H9
    · have H10 := H8 c6
      refine Wp.iload_n 2 2 d_M_held_14 rfl rfl ?_
      refine Wp.goto 19 d_M_held_15 (by decide) ?_
      exact Wq.iret d_M_held_19 rfl H10
  · have H5 := H3 c1
    refine Wp.iload_n 1 1 d_M_held_5 rfl rfl ?_
    refine Wp.goto 19 d_M_held_6 (by decide) ?_
    exact Wq.iret d_M_held_19 rfl H5
theorem d_M_keptTo_0 : decode Y_M_keptTo.2.1 0 = .ok (.iload_n 0, 1) := by decide +kernel
theorem d_M_keptTo_1 : decode Y_M_keptTo.2.1 1 = .ok (.sipush 999, 3) := by decide +kernel
theorem d_M_keptTo_4 : decode Y_M_keptTo.2.1 4 = .ok (.if_icmp .gt 7, 3) := by decide +kernel
theorem d_M_keptTo_7 : decode Y_M_keptTo.2.1 7 = .ok (.iload_n 0, 1) := by decide +kernel
theorem d_M_keptTo_8 : decode Y_M_keptTo.2.1 8 = .ok (.goto 17, 3) := by decide +kernel
theorem d_M_keptTo_11 : decode Y_M_keptTo.2.1 11 = .ok (.iload_n 1, 1) := by decide +kernel
theorem d_M_keptTo_12 : decode Y_M_keptTo.2.1 12 = .ok (.sipush 999, 3) := by decide +kernel
theorem d_M_keptTo_15 : decode Y_M_keptTo.2.1 15 = .ok (.if_icmp .le 7, 3) := by decide +kernel
theorem d_M_keptTo_18 : decode Y_M_keptTo.2.1 18 = .ok (.iload_n 1, 1) := by decide +kernel
theorem d_M_keptTo_19 : decode Y_M_keptTo.2.1 19 = .ok (.goto 6, 3) := by decide +kernel
theorem d_M_keptTo_22 : decode Y_M_keptTo.2.1 22 = .ok (.sipush 999, 3) := by decide +kernel
theorem d_M_keptTo_25 : decode Y_M_keptTo.2.1 25 = .ok (.ireturn, 1) := by decide +kernel
theorem e_M_keptTo {l : Launch} {G : GT} {d : Nat} {P : Int → MM → Prop} {m : MM} (x0 : Int) (x1 : Int)  (H : wfM m → inR x0 → inR x1 → (x0 > 999 → ((x1 ≤ 999 → (P 999 m)) ∧ (¬ (x1 ≤ 999) → (P x1 m)))) ∧ (¬ (x0 > 999) → (P x0 m))) : CI l G Y_M_keptTo d [.inl x0, .inl x1] m P := by
  refine CI.of [(0, .inl x0), (1, .inl x1)] k_M_keptTo.1 (Nat.le_of_ble_eq_true rfl) rfl (Wp.wf (fun hw _ hl hs => ?_))
  have H0 := H hw (hl _ (List.mem_of_getElem? (i := 0) rfl)) (hl _ (List.mem_of_getElem? (i := 1) rfl))
  refine Wp.iload_n 0 0 d_M_keptTo_0 rfl rfl ?_
  refine Wp.sipush d_M_keptTo_1 (by decide) (by decide) ?_
  obtain ⟨H2, H3⟩ := H0
  refine Wp.icmp_gt 11 d_M_keptTo_4 (by decide) (fun c1 => ?_) (fun c1 => ?_)
  · have H4 := H2 c1
    refine Wp.iload_n 1 1 d_M_keptTo_11 rfl rfl ?_
    refine Wp.sipush d_M_keptTo_12 (by decide) (by decide) ?_
    obtain ⟨H7, H8⟩ := H4
    refine Wp.icmp_le 22 d_M_keptTo_15 (by decide) (fun c6 => ?_) (fun c6 => ?_)
    · have H9 := H7 c6
      refine Wp.sipush d_M_keptTo_22 (by decide) (by decide) ?_
      exact Wq.iret d_M_keptTo_25 rfl H9
    · have H10 := H8 c6
      refine Wp.iload_n 1 1 d_M_keptTo_18 rfl rfl ?_
      refine Wp.goto 25 d_M_keptTo_19 (by decide) ?_
      exact Wq.iret d_M_keptTo_25 rfl H10
  · have H5 := H3 c1
    refine Wp.iload_n 0 0 d_M_keptTo_7 rfl rfl ?_
    refine Wp.goto 25 d_M_keptTo_8 (by decide) ?_
    exact Wq.iret d_M_keptTo_25 rfl H5
