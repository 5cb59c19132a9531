theorem d_S_levels_0 : decode Y_S_levels.2.1 0 = .ok (.iload_n 1, 1) := by decide +kernel
theorem d_S_levels_1 : decode Y_S_levels.2.1 1 = .ok (.ifCond .ne 11, 3) := by decide +kernel
theorem d_S_levels_4 : decode Y_S_levels.2.1 4 = .ok (.aload_n 0, 1) := by decide +kernel
theorem d_S_levels_5 : decode Y_S_levels.2.1 5 = .ok (.getfield 27, 3) := by decide +kernel
theorem d_S_levels_8 : decode Y_S_levels.2.1 8 = .ok (.invokevirtual 277, 3) := by decide +kernel
theorem d_S_levels_11 : decode Y_S_levels.2.1 11 = .ok (.ireturn, 1) := by decide +kernel
theorem d_S_levels_12 : decode Y_S_levels.2.1 12 = .ok (.iload_n 1, 1) := by decide +kernel
theorem d_S_levels_13 : decode Y_S_levels.2.1 13 = .ok (.iconst 1, 1) := by decide +kernel
theorem d_S_levels_14 : decode Y_S_levels.2.1 14 = .ok (.if_icmp .ne 21, 3) := by decide +kernel
theorem d_S_levels_17 : decode Y_S_levels.2.1 17 = .ok (.aload_n 0, 1) := by decide +kernel
theorem d_S_levels_18 : decode Y_S_levels.2.1 18 = .ok (.getfield 27, 3) := by decide +kernel
theorem d_S_levels_21 : decode Y_S_levels.2.1 21 = .ok (.invokevirtual 280, 3) := by decide +kernel
theorem d_S_levels_24 : decode Y_S_levels.2.1 24 = .ok (.aload_n 0, 1) := by decide +kernel
theorem d_S_levels_25 : decode Y_S_levels.2.1 25 = .ok (.getfield 27, 3) := by decide +kernel
theorem d_S_levels_28 : decode Y_S_levels.2.1 28 = .ok (.getfield 119, 3) := by decide +kernel
theorem d_S_levels_31 : decode Y_S_levels.2.1 31 = .ok (.isub, 1) := by decide +kernel
theorem d_S_levels_32 : decode Y_S_levels.2.1 32 = .ok (.goto 4, 3) := by decide +kernel
theorem d_S_levels_35 : decode Y_S_levels.2.1 35 = .ok (.iconst (-1), 1) := by decide +kernel
theorem d_S_levels_36 : decode Y_S_levels.2.1 36 = .ok (.ireturn, 1) := by decide +kernel
theorem e_S_levels {l : Launch} {G : GT} {d : Nat} {P : Int → MM → Prop} {m : MM} (x1 : Int)  (H : wfM m → inR x1 → (x1 ≠ 0 → ((x1 ≠ 1 → (P (-1) m)) ∧ (¬ (x1 ≠ 1) → (∃ b11 : Nat, m 0 5 = b11 ∧ isB b11 ∧ (∃ (e15 : Nat) (P16 : Int → MM → Prop), e15 < d ∧ CI l G Y_Board_allBrims e15 [.inr (.inr b11)] m P16 ∧ (∀ z21 m22, P16 z21 m22 → inR z21 → wfM m22 → (∃ b26 : Nat, m22 0 5 = b26 ∧ isB b26 ∧ ((inR (z21 - (m22 b26 0))) ∧ (P (z21 - (m22 b26 0)) m22))))))))) ∧ (¬ (x1 ≠ 0) → (∃ b32 : Nat, m 0 5 = b32 ∧ isB b32 ∧ (∃ (e36 : Nat) (P37 : Int → MM → Prop), e36 < d ∧ CI l G Y_Board_betweenPlates e36 [.inr (.inr b32)] m P37 ∧ (∀ z42 m43, P37 z42 m43 → inR z42 → wfM m43 → (P z42 m43)))))) : CI l G Y_S_levels d [.inr (.inr 0), .inl x1] m P := by
  refine CI.of [(0, .inr (.inr 0)), (1, .inl x1)] k_S_levels.1 (Nat.le_of_ble_eq_true rfl) rfl (Wp.wf (fun hw _ hl hs => ?_))
  have H0 := H hw (hl _ (List.mem_of_getElem? (i := 1) rfl))
  refine Wp.iload_n 1 1 d_S_levels_0 rfl rfl ?_
  obtain ⟨H2, H3⟩ := H0
  refine Wp.if_ne 12 d_S_levels_1 (by decide) (fun c1 => ?_) (fun c1 => ?_)
  · have H4 := H2 c1
    refine Wp.iload_n 1 1 d_S_levels_12 rfl rfl ?_
    refine Wp.iconst d_S_levels_13 (by decide) ?_
    obtain ⟨H7, H8⟩ := H4
    refine Wp.icmp_ne 35 d_S_levels_14 (by decide) (fun c6 => ?_) (fun c6 => ?_)
    · have H9 := H7 c6
      refine Wp.iconst d_S_levels_35 (by decide) ?_
      exact Wq.iret d_S_levels_36 rfl H9
    · have H10 := H8 c6
      refine Wp.aload_n 0 0 d_S_levels_17 rfl rfl ?_
      obtain ⟨b11, hb12, hB13, H14⟩ := H10
      refine Wp.getR b11 d_S_levels_18 fl_S_27 rfl (Or.inl rfl) rfl hb12 ?_
      obtain ⟨e15, P16, hd17, ho18, H19⟩ := H14
      refine Wq.VI (st := []) [] d_S_levels_21 k_Board_allBrims ml_S_280 rfl (isB_lay hB13) rfl (fun h => by cases h) (Nat.le_of_ble_eq_true rfl) hd17 ho18 (fun z21 m22 hp23 hz24 hw25 => ?_)
      have H20 := H19 z21 m22 hp23 hz24 hw25
      refine Wp.aload_n 0 0 d_S_levels_24 rfl rfl ?_
      obtain ⟨b26, hb27, hB28, H29⟩ := H20
      refine Wp.getR b26 d_S_levels_25 fl_S_27 rfl (Or.inl rfl) rfl hb27 ?_
      refine Wq.getI 0 rfl d_S_levels_28 fl_S_119 (isB_lay hB28) (Or.inl rfl) ?_
      obtain ⟨s30, H31⟩ := H29
      refine Wp.isub d_S_levels_31 s30 ?_
      refine Wp.goto 36 d_S_levels_32 (by decide) ?_
      exact Wq.iret d_S_levels_36 rfl H31
  · have H5 := H3 c1
    refine Wp.aload_n 0 0 d_S_levels_4 rfl rfl ?_
    obtain ⟨b32, hb33, hB34, H35⟩ := H5
    refine Wp.getR b32 d_S_levels_5 fl_S_27 rfl (Or.inl rfl) rfl hb33 ?_
    obtain ⟨e36, P37, hd38, ho39, H40⟩ := H35
    refine Wq.VI (st := []) [] d_S_levels_8 k_Board_betweenPlates ml_S_277 rfl (isB_lay hB34) rfl (fun h => by cases h) (Nat.le_of_ble_eq_true rfl) hd38 ho39 (fun z42 m43 hp44 hz45 hw46 => ?_)
    have H41 := H40 z42 m43 hp44 hz45 hw46
    exact Wq.iret d_S_levels_11 rfl H41
theorem d_S_mend_0 : decode Y_S_mend.2.1 0 = .ok (.aload_n 0, 1) := by decide +kernel
theorem d_S_mend_1 : decode Y_S_mend.2.1 1 = .ok (.invokevirtual 241, 3) := by decide +kernel
theorem d_S_mend_4 : decode Y_S_mend.2.1 4 = .ok (.aload_n 0, 1) := by decide +kernel
theorem d_S_mend_5 : decode Y_S_mend.2.1 5 = .ok (.getfield 91, 3) := by decide +kernel
theorem d_S_mend_8 : decode Y_S_mend.2.1 8 = .ok (.invokevirtual 132, 3) := by decide +kernel
theorem d_S_mend_11 : decode Y_S_mend.2.1 11 = .ok (.aload_n 0, 1) := by decide +kernel
theorem d_S_mend_12 : decode Y_S_mend.2.1 12 = .ok (.getfield 77, 3) := by decide +kernel
theorem d_S_mend_15 : decode Y_S_mend.2.1 15 = .ok (.aload_n 0, 1) := by decide +kernel
theorem d_S_mend_16 : decode Y_S_mend.2.1 16 = .ok (.getfield 27, 3) := by decide +kernel
theorem d_S_mend_19 : decode Y_S_mend.2.1 19 = .ok (.aload_n 0, 1) := by decide +kernel
theorem d_S_mend_20 : decode Y_S_mend.2.1 20 = .ok (.getfield 60, 3) := by decide +kernel
theorem d_S_mend_23 : decode Y_S_mend.2.1 23 = .ok (.getfield 211, 3) := by decide +kernel
theorem d_S_mend_26 : decode Y_S_mend.2.1 26 = .ok (.aload_n 0, 1) := by decide +kernel
theorem d_S_mend_27 : decode Y_S_mend.2.1 27 = .ok (.getfield 91, 3) := by decide +kernel
theorem d_S_mend_30 : decode Y_S_mend.2.1 30 = .ok (.invokevirtual 283, 3) := by decide +kernel
theorem d_S_mend_33 : decode Y_S_mend.2.1 33 = .ok (.ireturn, 1) := by decide +kernel
theorem e_S_mend {l : Launch} {G : GT} {d : Nat} {P : Int → MM → Prop} {m : MM}   (H : wfM m → ∃ (e1 : Nat) (P2 : MM → Prop), e1 < d ∧ CV l G Y_S_settleAhead e1 [.inr (.inr 0)] m P2 ∧ (∀ m8, P2 m8 → wfM m8 → (∃ (e12 : Nat) (P13 : MM → Prop), e12 < d ∧ CV l G Y_Lying_clear e12 [.inr (.inr 67)] m8 P13 ∧ (∀ m19, P13 m19 → wfM m19 → (∃ b23 : Nat, m19 0 5 = b23 ∧ isB b23 ∧ (∃ (e27 : Nat) (P28 : Int → MM → Prop), e27 < d ∧ CI l G Y_Fire_leastToAdd e27 [.inr (.inr 45), .inr (.inr b23), .inr (.inr 33), .inr (.inr 67)] m19 P28 ∧ (∀ z33 m34, P28 z33 m34 → inR z33 → wfM m34 → (P z33 m34)))))))) : CI l G Y_S_mend d [.inr (.inr 0)] m P := by
  refine CI.of [(0, .inr (.inr 0))] k_S_mend.1 (Nat.le_of_ble_eq_true rfl) rfl (Wp.wf (fun hw _ hl hs => ?_))
  have H0 := H hw
  refine Wp.aload_n 0 0 d_S_mend_0 rfl rfl ?_
  obtain ⟨e1, P2, hd3, ho4, H5⟩ := H0
  refine Wq.VV (st := []) [] d_S_mend_1 k_S_settleAhead ml_S_241 rfl rfl rfl (fun h => by cases h) (Nat.le_of_ble_eq_true rfl) hd3 ho4 (fun m8 hp9 hw11 => ?_)
  have H6 := H5 m8 hp9 hw11
  refine Wp.aload_n 0 0 d_S_mend_4 rfl rfl ?_
  refine Wp.getP 67 d_S_mend_5 fl_S_91 rfl rfl rfl ?_
  obtain ⟨e12, P13, hd14, ho15, H16⟩ := H6
  refine Wq.VV (st := []) [] d_S_mend_8 k_Lying_clear ml_S_132 rfl rfl rfl (fun h => by cases h) (Nat.le_of_ble_eq_true rfl) hd14 ho15 (fun m19 hp20 hw22 => ?_)
  have H17 := H16 m19 hp20 hw22
  refine Wp.aload_n 0 0 d_S_mend_11 rfl rfl ?_
  refine Wp.getP 45 d_S_mend_12 fl_S_77 rfl rfl rfl ?_
  refine Wp.aload_n 0 0 d_S_mend_15 rfl rfl ?_
  obtain ⟨b23, hb24, hB25, H26⟩ := H17
  refine Wp.getR b23 d_S_mend_16 fl_S_27 rfl (Or.inl rfl) rfl hb24 ?_
  refine Wp.aload_n 0 0 d_S_mend_19 rfl rfl ?_
  refine Wp.getP 32 d_S_mend_20 fl_S_60 rfl rfl rfl ?_
  refine Wp.getP 33 d_S_mend_23 fl_S_211 rfl rfl rfl ?_
  refine Wp.aload_n 0 0 d_S_mend_26 rfl rfl ?_
  refine Wp.getP 67 d_S_mend_27 fl_S_91 rfl rfl rfl ?_
  obtain ⟨e27, P28, hd29, ho30, H31⟩ := H26
  refine Wq.VI (st := []) [.inr (.inr b23), .inr (.inr 33), .inr (.inr 67)] d_S_mend_30 k_Fire_leastToAdd ml_S_283 rfl rfl rfl (fun h => by cases h) (Nat.le_of_ble_eq_true rfl) hd29 ho30 (fun z33 m34 hp35 hz36 hw37 => ?_)
  have H32 := H31 z33 m34 hp35 hz36 hw37
  exact Wq.iret d_S_mend_33 rfl H32
theorem d_S_nought_0 : decode Y_S_nought.2.1 0 = .ok (.aload_n 0, 1) := by decide +kernel
theorem d_S_nought_1 : decode Y_S_nought.2.1 1 = .ok (.getfield 27, 3) := by decide +kernel
theorem d_S_nought_4 : decode Y_S_nought.2.1 4 = .ok (.iload_n 1, 1) := by decide +kernel
theorem d_S_nought_5 : decode Y_S_nought.2.1 5 = .ok (.invokevirtual 142, 3) := by decide +kernel
theorem d_S_nought_8 : decode Y_S_nought.2.1 8 = .ok (.ifCond .ne 5, 3) := by decide +kernel
theorem d_S_nought_11 : decode Y_S_nought.2.1 11 = .ok (.iconst (-1), 1) := by decide +kernel
theorem d_S_nought_12 : decode Y_S_nought.2.1 12 = .ok (.ireturn, 1) := by decide +kernel
theorem d_S_nought_13 : decode Y_S_nought.2.1 13 = .ok (.aload_n 0, 1) := by decide +kernel
theorem d_S_nought_14 : decode Y_S_nought.2.1 14 = .ok (.getfield 40, 3) := by decide +kernel
theorem d_S_nought_17 : decode Y_S_nought.2.1 17 = .ok (.iconst 0, 1) := by decide +kernel
theorem d_S_nought_18 : decode Y_S_nought.2.1 18 = .ok (.invokestatic 286, 3) := by decide +kernel
theorem d_S_nought_21 : decode Y_S_nought.2.1 21 = .ok (.aload_n 0, 1) := by decide +kernel
theorem d_S_nought_22 : decode Y_S_nought.2.1 22 = .ok (.getfield 70, 3) := by decide +kernel
theorem d_S_nought_25 : decode Y_S_nought.2.1 25 = .ok (.aload_n 0, 1) := by decide +kernel
theorem d_S_nought_26 : decode Y_S_nought.2.1 26 = .ok (.getfield 27, 3) := by decide +kernel
theorem d_S_nought_29 : decode Y_S_nought.2.1 29 = .ok (.aload_n 0, 1) := by decide +kernel
theorem d_S_nought_30 : decode Y_S_nought.2.1 30 = .ok (.getfield 40, 3) := by decide +kernel
theorem d_S_nought_33 : decode Y_S_nought.2.1 33 = .ok (.invokevirtual 292, 3) := by decide +kernel
theorem d_S_nought_36 : decode Y_S_nought.2.1 36 = .ok (.aload_n 0, 1) := by decide +kernel
theorem d_S_nought_37 : decode Y_S_nought.2.1 37 = .ok (.getfield 40, 3) := by decide +kernel
theorem d_S_nought_40 : decode Y_S_nought.2.1 40 = .ok (.iload_n 1, 1) := by decide +kernel
theorem d_S_nought_41 : decode Y_S_nought.2.1 41 = .ok (.iaload, 1) := by decide +kernel
theorem d_S_nought_42 : decode Y_S_nought.2.1 42 = .ok (.ireturn, 1) := by decide +kernel
theorem e_S_nought {l : Launch} {G : GT} {d : Nat} {P : Int → MM → Prop} {m : MM} (x1 : Int)  (H : wfM m → inR x1 → ∃ b1 : Nat, m 0 5 = b1 ∧ isB b1 ∧ (∃ (e5 : Nat) (P6 : Int → MM → Prop), e5 < d ∧ CI l G Y_Board_has e5 [.inr (.inr b1), .inl x1] m P6 ∧ (∀ z11 m12, P6 z11 m12 → inR z11 → wfM m12 → ((z11 ≠ 0 → (∃ (e21 : Nat) (P22 : MM → Prop), e21 < d ∧ CV l G Y_Arrays_fill e21 [.inr (.inr 27), .inl 0] m12 P22 ∧ (∀ m28, P22 m28 → wfM m28 → (∃ b32 : Nat, m28 0 5 = b32 ∧ isB b32 ∧ (∃ (e36 : Nat) (P37 : MM → Prop), e36 < d ∧ CV l G Y_Group_toOwn e36 [.inr (.inr 38), .inr (.inr b32), .inr (.inr 27)] m28 P37 ∧ (∀ m43, P37 m43 → wfM m43 → ((0 ≤ x1 ∧ x1 < (8 : Int)) ∧ (P (m43 27 x1) m43)))))))) ∧ (¬ (z11 ≠ 0) → (P (-1) m12)))))) : CI l G Y_S_nought d [.inr (.inr 0), .inl x1] m P := by
  refine CI.of [(0, .inr (.inr 0)), (1, .inl x1)] k_S_nought.1 (Nat.le_of_ble_eq_true rfl) rfl (Wp.wf (fun hw _ hl hs => ?_))
  have H0 := H hw (hl _ (List.mem_of_getElem? (i := 1) rfl))
  refine Wp.aload_n 0 0 d_S_nought_0 rfl rfl ?_
  obtain ⟨b1, hb2, hB3, H4⟩ := H0
  refine Wp.getR b1 d_S_nought_1 fl_S_27 rfl (Or.inl rfl) rfl hb2 ?_
  refine Wp.iload_n 1 1 d_S_nought_4 rfl rfl ?_
  obtain ⟨e5, P6, hd7, ho8, H9⟩ := H4
  refine Wq.VI (st := []) [.inl x1] d_S_nought_5 k_Board_has ml_S_142 rfl (isB_lay hB3) rfl (fun h => by cases h) (Nat.le_of_ble_eq_true rfl) hd7 ho8 (fun z11 m12 hp13 hz14 hw15 => ?_)
  have H10 := H9 z11 m12 hp13 hz14 hw15
  obtain ⟨H17, H18⟩ := H10
  refine Wp.if_ne 13 d_S_nought_8 (by decide) (fun c16 => ?_) (fun c16 => ?_)
  · have H19 := H17 c16
    refine Wp.aload_n 0 0 d_S_nought_13 rfl rfl ?_
    refine Wp.getP 27 d_S_nought_14 fl_S_40 rfl rfl rfl ?_
    refine Wp.iconst d_S_nought_17 (by decide) ?_
    obtain ⟨e21, P22, hd23, ho24, H25⟩ := H19
    refine Wq.SV (st := []) [.inr (.inr 27), .inl 0] d_S_nought_18 k_Arrays_fill ml_S_286 rfl  (fun h => by cases h) (Nat.le_of_ble_eq_true rfl) hd23 ho24 (fun m28 hp29 hw31 => ?_)
    have H26 := H25 m28 hp29 hw31
    refine Wp.aload_n 0 0 d_S_nought_21 rfl rfl ?_
    refine Wp.getP 38 d_S_nought_22 fl_S_70 rfl rfl rfl ?_
    refine Wp.aload_n 0 0 d_S_nought_25 rfl rfl ?_
    obtain ⟨b32, hb33, hB34, H35⟩ := H26
    refine Wp.getR b32 d_S_nought_26 fl_S_27 rfl (Or.inl rfl) rfl hb33 ?_
    refine Wp.aload_n 0 0 d_S_nought_29 rfl rfl ?_
    refine Wp.getP 27 d_S_nought_30 fl_S_40 rfl rfl rfl ?_
    obtain ⟨e36, P37, hd38, ho39, H40⟩ := H35
    refine Wq.VV (st := []) [.inr (.inr b32), .inr (.inr 27)] d_S_nought_33 k_Group_toOwn ml_S_292 rfl rfl rfl (fun h => by cases h) (Nat.le_of_ble_eq_true rfl) hd38 ho39 (fun m43 hp44 hw46 => ?_)
    have H41 := H40 m43 hp44 hw46
    refine Wp.aload_n 0 0 d_S_nought_36 rfl rfl ?_
    refine Wp.getP 27 d_S_nought_37 fl_S_40 rfl rfl rfl ?_
    refine Wp.iload_n 1 1 d_S_nought_40 rfl rfl ?_
    obtain ⟨s47, H48⟩ := H41
    refine Wp.iald d_S_nought_41 rfl (Or.inl rfl) s47.1 s47.2 ?_
    exact Wq.iret d_S_nought_42 rfl H48
  · have H20 := H18 c16
    refine Wp.iconst d_S_nought_11 (by decide) ?_
    exact Wq.iret d_S_nought_12 rfl H20
theorem d_S_own_0 : decode Y_S_own.2.1 0 = .ok (.aload_n 0, 1) := by decide +kernel
theorem d_S_own_1 : decode Y_S_own.2.1 1 = .ok (.getfield 27, 3) := by decide +kernel
theorem d_S_own_4 : decode Y_S_own.2.1 4 = .ok (.iload_n 1, 1) := by decide +kernel
theorem d_S_own_5 : decode Y_S_own.2.1 5 = .ok (.invokevirtual 142, 3) := by decide +kernel
theorem d_S_own_8 : decode Y_S_own.2.1 8 = .ok (.ifCond .ne 5, 3) := by decide +kernel
theorem d_S_own_11 : decode Y_S_own.2.1 11 = .ok (.iconst (-1), 1) := by decide +kernel
theorem d_S_own_12 : decode Y_S_own.2.1 12 = .ok (.ireturn, 1) := by decide +kernel
theorem d_S_own_13 : decode Y_S_own.2.1 13 = .ok (.aload_n 0, 1) := by decide +kernel
theorem d_S_own_14 : decode Y_S_own.2.1 14 = .ok (.getfield 34, 3) := by decide +kernel
theorem d_S_own_17 : decode Y_S_own.2.1 17 = .ok (.iconst 0, 1) := by decide +kernel
theorem d_S_own_18 : decode Y_S_own.2.1 18 = .ok (.aload_n 0, 1) := by decide +kernel
theorem d_S_own_19 : decode Y_S_own.2.1 19 = .ok (.getfield 40, 3) := by decide +kernel
theorem d_S_own_22 : decode Y_S_own.2.1 22 = .ok (.iconst 0, 1) := by decide +kernel
theorem d_S_own_23 : decode Y_S_own.2.1 23 = .ok (.bipush 8, 2) := by decide +kernel
theorem d_S_own_25 : decode Y_S_own.2.1 25 = .ok (.invokestatic 232, 3) := by decide +kernel
theorem d_S_own_28 : decode Y_S_own.2.1 28 = .ok (.aload_n 0, 1) := by decide +kernel
theorem d_S_own_29 : decode Y_S_own.2.1 29 = .ok (.getfield 70, 3) := by decide +kernel
theorem d_S_own_32 : decode Y_S_own.2.1 32 = .ok (.aload_n 0, 1) := by decide +kernel
theorem d_S_own_33 : decode Y_S_own.2.1 33 = .ok (.getfield 27, 3) := by decide +kernel
theorem d_S_own_36 : decode Y_S_own.2.1 36 = .ok (.aload_n 0, 1) := by decide +kernel
theorem d_S_own_37 : decode Y_S_own.2.1 37 = .ok (.getfield 40, 3) := by decide +kernel
theorem d_S_own_40 : decode Y_S_own.2.1 40 = .ok (.invokevirtual 292, 3) := by decide +kernel
theorem d_S_own_43 : decode Y_S_own.2.1 43 = .ok (.aload_n 0, 1) := by decide +kernel
theorem d_S_own_44 : decode Y_S_own.2.1 44 = .ok (.getfield 40, 3) := by decide +kernel
theorem d_S_own_47 : decode Y_S_own.2.1 47 = .ok (.iload_n 1, 1) := by decide +kernel
theorem d_S_own_48 : decode Y_S_own.2.1 48 = .ok (.iaload, 1) := by decide +kernel
theorem d_S_own_49 : decode Y_S_own.2.1 49 = .ok (.ireturn, 1) := by decide +kernel
theorem e_S_own {l : Launch} {G : GT} {d : Nat} {P : Int → MM → Prop} {m : MM} (x1 : Int)  (hd1 : 1 ≤ d) (H : wfM m → inR x1 → ∃ b1 : Nat, m 0 5 = b1 ∧ isB b1 ∧ (∃ (e5 : Nat) (P6 : Int → MM → Prop), e5 < d ∧ CI l G Y_Board_has e5 [.inr (.inr b1), .inl x1] m P6 ∧ (∀ z11 m12, P6 z11 m12 → inR z11 → wfM m12 → ((z11 ≠ 0 → (((0 : Int) ≤ 0 ∧ (0 : Int) ≤ 0 ∧ (0 : Int) < 8 ∧ (0 : Int) + 8 ≤ (8 : Nat) ∧ (0 : Int) + 8 ≤ (8 : Nat)) ∧ (∀ m21, m21 = upC m12 25 27 0 0 8 → (∃ b26 : Nat, m21 0 5 = b26 ∧ isB b26 ∧ (∃ (e30 : Nat) (P31 : MM → Prop), e30 < d ∧ CV l G Y_Group_toOwn e30 [.inr (.inr 38), .inr (.inr b26), .inr (.inr 27)] m21 P31 ∧ (∀ m37, P31 m37 → wfM m37 → ((0 ≤ x1 ∧ x1 < (8 : Int)) ∧ (P (m37 27 x1) m37)))))))) ∧ (¬ (z11 ≠ 0) → (P (-1) m12)))))) : CI l G Y_S_own d [.inr (.inr 0), .inl x1] m P := by
  refine CI.of [(0, .inr (.inr 0)), (1, .inl x1)] k_S_own.1 (Nat.le_of_ble_eq_true rfl) rfl (Wp.wf (fun hw _ hl hs => ?_))
  have H0 := H hw (hl _ (List.mem_of_getElem? (i := 1) rfl))
  refine Wp.aload_n 0 0 d_S_own_0 rfl rfl ?_
  obtain ⟨b1, hb2, hB3, H4⟩ := H0
  refine Wp.getR b1 d_S_own_1 fl_S_27 rfl (Or.inl rfl) rfl hb2 ?_
  refine Wp.iload_n 1 1 d_S_own_4 rfl rfl ?_
  obtain ⟨e5, P6, hd7, ho8, H9⟩ := H4
  refine Wq.VI (st := []) [.inl x1] d_S_own_5 k_Board_has ml_S_142 rfl (isB_lay hB3) rfl (fun h => by cases h) (Nat.le_of_ble_eq_true rfl) hd7 ho8 (fun z11 m12 hp13 hz14 hw15 => ?_)
  have H10 := H9 z11 m12 hp13 hz14 hw15
  obtain ⟨H17, H18⟩ := H10
  refine Wp.if_ne 13 d_S_own_8 (by decide) (fun c16 => ?_) (fun c16 => ?_)
  · have H19 := H17 c16
    refine Wp.aload_n 0 0 d_S_own_13 rfl rfl ?_
    refine Wp.getP 25 d_S_own_14 fl_S_34 rfl rfl rfl ?_
    refine Wp.iconst d_S_own_17 (by decide) ?_
    refine Wp.aload_n 0 0 d_S_own_18 rfl rfl ?_
    refine Wp.getP 27 d_S_own_19 fl_S_40 rfl rfl rfl ?_
    refine Wp.iconst d_S_own_22 (by decide) ?_
    refine Wp.bipush d_S_own_23 (by decide) (by decide) ?_
    obtain ⟨s25, H24⟩ := H19
    refine Wq.acopy d_S_own_25 ml_S_232 rfl rfl (by decide) (by decide) hd1 (fun h => by cases h) (Nat.le_of_ble_eq_true rfl) s25 (fun m21 hm22 => ?_)
    have H23 := H24 m21 hm22
    refine Wp.aload_n 0 0 d_S_own_28 rfl rfl ?_
    refine Wp.getP 38 d_S_own_29 fl_S_70 rfl rfl rfl ?_
    refine Wp.aload_n 0 0 d_S_own_32 rfl rfl ?_
    obtain ⟨b26, hb27, hB28, H29⟩ := H23
    refine Wp.getR b26 d_S_own_33 fl_S_27 rfl (Or.inl rfl) rfl hb27 ?_
    refine Wp.aload_n 0 0 d_S_own_36 rfl rfl ?_
    refine Wp.getP 27 d_S_own_37 fl_S_40 rfl rfl rfl ?_
    obtain ⟨e30, P31, hd32, ho33, H34⟩ := H29
    refine Wq.VV (st := []) [.inr (.inr b26), .inr (.inr 27)] d_S_own_40 k_Group_toOwn ml_S_292 rfl rfl rfl (fun h => by cases h) (Nat.le_of_ble_eq_true rfl) hd32 ho33 (fun m37 hp38 hw40 => ?_)
    have H35 := H34 m37 hp38 hw40
    refine Wp.aload_n 0 0 d_S_own_43 rfl rfl ?_
    refine Wp.getP 27 d_S_own_44 fl_S_40 rfl rfl rfl ?_
    refine Wp.iload_n 1 1 d_S_own_47 rfl rfl ?_
    obtain ⟨s41, H42⟩ := H35
    refine Wp.iald d_S_own_48 rfl (Or.inl rfl) s41.1 s41.2 ?_
    exact Wq.iret d_S_own_49 rfl H42
  · have H20 := H18 c16
    refine Wp.iconst d_S_own_11 (by decide) ?_
    exact Wq.iret d_S_own_12 rfl H20
theorem d_S_bare_0 : decode Y_S_bare.2.1 0 = .ok (.aload_n 0, 1) := by decide +kernel
theorem d_S_bare_1 : decode Y_S_bare.2.1 1 = .ok (.getfield 27, 3) := by decide +kernel
theorem d_S_bare_4 : decode Y_S_bare.2.1 4 = .ok (.iload_n 1, 1) := by decide +kernel
theorem d_S_bare_5 : decode Y_S_bare.2.1 5 = .ok (.invokevirtual 142, 3) := by decide +kernel
theorem d_S_bare_8 : decode Y_S_bare.2.1 8 = .ok (.ifCond .ne 5, 3) := by decide +kernel
theorem d_S_bare_11 : decode Y_S_bare.2.1 11 = .ok (.iconst (-1), 1) := by decide +kernel
theorem d_S_bare_12 : decode Y_S_bare.2.1 12 = .ok (.ireturn, 1) := by decide +kernel
theorem d_S_bare_13 : decode Y_S_bare.2.1 13 = .ok (.aload_n 0, 1) := by decide +kernel
theorem d_S_bare_14 : decode Y_S_bare.2.1 14 = .ok (.getfield 34, 3) := by decide +kernel
theorem d_S_bare_17 : decode Y_S_bare.2.1 17 = .ok (.iconst 0, 1) := by decide +kernel
theorem d_S_bare_18 : decode Y_S_bare.2.1 18 = .ok (.aload_n 0, 1) := by decide +kernel
theorem d_S_bare_19 : decode Y_S_bare.2.1 19 = .ok (.getfield 40, 3) := by decide +kernel
theorem d_S_bare_22 : decode Y_S_bare.2.1 22 = .ok (.iconst 0, 1) := by decide +kernel
theorem d_S_bare_23 : decode Y_S_bare.2.1 23 = .ok (.bipush 8, 2) := by decide +kernel
theorem d_S_bare_25 : decode Y_S_bare.2.1 25 = .ok (.invokestatic 232, 3) := by decide +kernel
theorem d_S_bare_28 : decode Y_S_bare.2.1 28 = .ok (.aload_n 0, 1) := by decide +kernel
theorem d_S_bare_29 : decode Y_S_bare.2.1 29 = .ok (.getfield 70, 3) := by decide +kernel
theorem d_S_bare_32 : decode Y_S_bare.2.1 32 = .ok (.aload_n 0, 1) := by decide +kernel
theorem d_S_bare_33 : decode Y_S_bare.2.1 33 = .ok (.getfield 27, 3) := by decide +kernel
theorem d_S_bare_36 : decode Y_S_bare.2.1 36 = .ok (.aload_n 0, 1) := by decide +kernel
theorem d_S_bare_37 : decode Y_S_bare.2.1 37 = .ok (.getfield 40, 3) := by decide +kernel
theorem d_S_bare_40 : decode Y_S_bare.2.1 40 = .ok (.invokevirtual 296, 3) := by decide +kernel
theorem d_S_bare_43 : decode Y_S_bare.2.1 43 = .ok (.aload_n 0, 1) := by decide +kernel
theorem d_S_bare_44 : decode Y_S_bare.2.1 44 = .ok (.getfield 40, 3) := by decide +kernel
theorem d_S_bare_47 : decode Y_S_bare.2.1 47 = .ok (.iload_n 1, 1) := by decide +kernel
theorem d_S_bare_48 : decode Y_S_bare.2.1 48 = .ok (.iaload, 1) := by decide +kernel
theorem d_S_bare_49 : decode Y_S_bare.2.1 49 = .ok (.ireturn, 1) := by decide +kernel
theorem e_S_bare {l : Launch} {G : GT} {d : Nat} {P : Int → MM → Prop} {m : MM} (x1 : Int)  (hd1 : 1 ≤ d) (H : wfM m → inR x1 → ∃ b1 : Nat, m 0 5 = b1 ∧ isB b1 ∧ (∃ (e5 : Nat) (P6 : Int → MM → Prop), e5 < d ∧ CI l G Y_Board_has e5 [.inr (.inr b1), .inl x1] m P6 ∧ (∀ z11 m12, P6 z11 m12 → inR z11 → wfM m12 → ((z11 ≠ 0 → (((0 : Int) ≤ 0 ∧ (0 : Int) ≤ 0 ∧ (0 : Int) < 8 ∧ (0 : Int) + 8 ≤ (8 : Nat) ∧ (0 : Int) + 8 ≤ (8 : Nat)) ∧ (∀ m21, m21 = upC m12 25 27 0 0 8 → (∃ b26 : Nat, m21 0 5 = b26 ∧ isB b26 ∧ (∃ (e30 : Nat) (P31 : MM → Prop), e30 < d ∧ CV l G Y_Group_toBare e30 [.inr (.inr 38), .inr (.inr b26), .inr (.inr 27)] m21 P31 ∧ (∀ m37, P31 m37 → wfM m37 → ((0 ≤ x1 ∧ x1 < (8 : Int)) ∧ (P (m37 27 x1) m37)))))))) ∧ (¬ (z11 ≠ 0) → (P (-1) m12)))))) : CI l G Y_S_bare d [.inr (.inr 0), .inl x1] m P := by
  refine CI.of [(0, .inr (.inr 0)), (1, .inl x1)] k_S_bare.1 (Nat.le_of_ble_eq_true rfl) rfl (Wp.wf (fun hw _ hl hs => ?_))
  have H0 := H hw (hl _ (List.mem_of_getElem? (i := 1) rfl))
  refine Wp.aload_n 0 0 d_S_bare_0 rfl rfl ?_
  obtain ⟨b1, hb2, hB3, H4⟩ := H0
  refine Wp.getR b1 d_S_bare_1 fl_S_27 rfl (Or.inl rfl) rfl hb2 ?_
  refine Wp.iload_n 1 1 d_S_bare_4 rfl rfl ?_
  obtain ⟨e5, P6, hd7, ho8, H9⟩ := H4
  refine Wq.VI (st := []) [.inl x1] d_S_bare_5 k_Board_has ml_S_142 rfl (isB_lay hB3) rfl (fun h => by cases h) (Nat.le_of_ble_eq_true rfl) hd7 ho8 (fun z11 m12 hp13 hz14 hw15 => ?_)
  have H10 := H9 z11 m12 hp13 hz14 hw15
  obtain ⟨H17, H18⟩ := H10
  refine Wp.if_ne 13 d_S_bare_8 (by decide) (fun c16 => ?_) (fun c16 => ?_)
  · have H19 := H17 c16
    refine Wp.aload_n 0 0 d_S_bare_13 rfl rfl ?_
    refine Wp.getP 25 d_S_bare_14 fl_S_34 rfl rfl rfl ?_
    refine Wp.iconst d_S_bare_17 (by decide) ?_
    refine Wp.aload_n 0 0 d_S_bare_18 rfl rfl ?_
    refine Wp.getP 27 d_S_bare_19 fl_S_40 rfl rfl rfl ?_
    refine Wp.iconst d_S_bare_22 (by decide) ?_
    refine Wp.bipush d_S_bare_23 (by decide) (by decide) ?_
    obtain ⟨s25, H24⟩ := H19
    refine Wq.acopy d_S_bare_25 ml_S_232 rfl rfl (by decide) (by decide) hd1 (fun h => by cases h) (Nat.le_of_ble_eq_true rfl) s25 (fun m21 hm22 => ?_)
    have H23 := H24 m21 hm22
    refine Wp.aload_n 0 0 d_S_bare_28 rfl rfl ?_
    refine Wp.getP 38 d_S_bare_29 fl_S_70 rfl rfl rfl ?_
    refine Wp.aload_n 0 0 d_S_bare_32 rfl rfl ?_
    obtain ⟨b26, hb27, hB28, H29⟩ := H23
    refine Wp.getR b26 d_S_bare_33 fl_S_27 rfl (Or.inl rfl) rfl hb27 ?_
    refine Wp.aload_n 0 0 d_S_bare_36 rfl rfl ?_
    refine Wp.getP 27 d_S_bare_37 fl_S_40 rfl rfl rfl ?_
    obtain ⟨e30, P31, hd32, ho33, H34⟩ := H29
    refine Wq.VV (st := []) [.inr (.inr b26), .inr (.inr 27)] d_S_bare_40 k_Group_toBare ml_S_296 rfl rfl rfl (fun h => by cases h) (Nat.le_of_ble_eq_true rfl) hd32 ho33 (fun m37 hp38 hw40 => ?_)
    have H35 := H34 m37 hp38 hw40
    refine Wp.aload_n 0 0 d_S_bare_43 rfl rfl ?_
    refine Wp.getP 27 d_S_bare_44 fl_S_40 rfl rfl rfl ?_
    refine Wp.iload_n 1 1 d_S_bare_47 rfl rfl ?_
    obtain ⟨s41, H42⟩ := H35
    refine Wp.iald d_S_bare_48 rfl (Or.inl rfl) s41.1 s41.2 ?_
    exact Wq.iret d_S_bare_49 rfl H42
  · have H20 := H18 c16
    refine Wp.iconst d_S_bare_11 (by decide) ?_
    exact Wq.iret d_S_bare_12 rfl H20
theorem d_S_sum_0 : decode Y_S_sum.2.1 0 = .ok (.aload_n 0, 1) := by decide +kernel
theorem d_S_sum_1 : decode Y_S_sum.2.1 1 = .ok (.getfield 91, 3) := by decide +kernel
theorem d_S_sum_4 : decode Y_S_sum.2.1 4 = .ok (.invokevirtual 132, 3) := by decide +kernel
theorem d_S_sum_7 : decode Y_S_sum.2.1 7 = .ok (.aload_n 0, 1) := by decide +kernel
theorem d_S_sum_8 : decode Y_S_sum.2.1 8 = .ok (.iload_n 1, 1) := by decide +kernel
theorem d_S_sum_9 : decode Y_S_sum.2.1 9 = .ok (.invokevirtual 299, 3) := by decide +kernel
theorem d_S_sum_12 : decode Y_S_sum.2.1 12 = .ok (.ifCond .ne 5, 3) := by decide +kernel
theorem d_S_sum_15 : decode Y_S_sum.2.1 15 = .ok (.iconst (-1), 1) := by decide +kernel
theorem d_S_sum_16 : decode Y_S_sum.2.1 16 = .ok (.ireturn, 1) := by decide +kernel
theorem d_S_sum_17 : decode Y_S_sum.2.1 17 = .ok (.aload_n 0, 1) := by decide +kernel
theorem d_S_sum_18 : decode Y_S_sum.2.1 18 = .ok (.getfield 60, 3) := by decide +kernel
theorem d_S_sum_21 : decode Y_S_sum.2.1 21 = .ok (.aload_n 0, 1) := by decide +kernel
theorem d_S_sum_22 : decode Y_S_sum.2.1 22 = .ok (.getfield 34, 3) := by decide +kernel
theorem d_S_sum_25 : decode Y_S_sum.2.1 25 = .ok (.invokevirtual 199, 3) := by decide +kernel
theorem d_S_sum_28 : decode Y_S_sum.2.1 28 = .ok (.iconst 0, 1) := by decide +kernel
theorem d_S_sum_29 : decode Y_S_sum.2.1 29 = .ok (.istore_n 2, 1) := by decide +kernel
theorem d_S_sum_30 : decode Y_S_sum.2.1 30 = .ok (.iload_n 2, 1) := by decide +kernel
theorem d_S_sum_31 : decode Y_S_sum.2.1 31 = .ok (.aload_n 0, 1) := by decide +kernel
theorem d_S_sum_32 : decode Y_S_sum.2.1 32 = .ok (.getfield 27, 3) := by decide +kernel
theorem d_S_sum_35 : decode Y_S_sum.2.1 35 = .ok (.getfield 119, 3) := by decide +kernel
theorem d_S_sum_38 : decode Y_S_sum.2.1 38 = .ok (.if_icmp .ge 28, 3) := by decide +kernel
theorem d_S_sum_41 : decode Y_S_sum.2.1 41 = .ok (.aload_n 0, 1) := by decide +kernel
theorem d_S_sum_42 : decode Y_S_sum.2.1 42 = .ok (.getfield 60, 3) := by decide +kernel
theorem d_S_sum_45 : decode Y_S_sum.2.1 45 = .ok (.iload_n 2, 1) := by decide +kernel
theorem d_S_sum_46 : decode Y_S_sum.2.1 46 = .ok (.aload_n 0, 1) := by decide +kernel
theorem d_S_sum_47 : decode Y_S_sum.2.1 47 = .ok (.getfield 50, 3) := by decide +kernel
theorem d_S_sum_50 : decode Y_S_sum.2.1 50 = .ok (.iload_n 1, 1) := by decide +kernel
theorem d_S_sum_51 : decode Y_S_sum.2.1 51 = .ok (.bipush 8, 2) := by decide +kernel
theorem d_S_sum_53 : decode Y_S_sum.2.1 53 = .ok (.imul, 1) := by decide +kernel
theorem d_S_sum_54 : decode Y_S_sum.2.1 54 = .ok (.iload_n 2, 1) := by decide +kernel
theorem d_S_sum_55 : decode Y_S_sum.2.1 55 = .ok (.iadd, 1) := by decide +kernel
theorem d_S_sum_56 : decode Y_S_sum.2.1 56 = .ok (.iaload, 1) := by decide +kernel
theorem d_S_sum_57 : decode Y_S_sum.2.1 57 = .ok (.invokevirtual 256, 3) := by decide +kernel
theorem d_S_sum_60 : decode Y_S_sum.2.1 60 = .ok (.iinc 2 1, 3) := by decide +kernel
theorem d_S_sum_63 : decode Y_S_sum.2.1 63 = .ok (.goto (-33), 3) := by decide +kernel
theorem d_S_sum_66 : decode Y_S_sum.2.1 66 = .ok (.aload_n 0, 1) := by decide +kernel
theorem d_S_sum_67 : decode Y_S_sum.2.1 67 = .ok (.getfield 60, 3) := by decide +kernel
theorem d_S_sum_70 : decode Y_S_sum.2.1 70 = .ok (.aload_n 0, 1) := by decide +kernel
theorem d_S_sum_71 : decode Y_S_sum.2.1 71 = .ok (.getfield 27, 3) := by decide +kernel
theorem d_S_sum_74 : decode Y_S_sum.2.1 74 = .ok (.invokevirtual 202, 3) := by decide +kernel
theorem d_S_sum_77 : decode Y_S_sum.2.1 77 = .ok (.iconst 0, 1) := by decide +kernel
theorem d_S_sum_78 : decode Y_S_sum.2.1 78 = .ok (.istore_n 2, 1) := by decide +kernel
theorem d_S_sum_79 : decode Y_S_sum.2.1 79 = .ok (.iconst 0, 1) := by decide +kernel
theorem d_S_sum_80 : decode Y_S_sum.2.1 80 = .ok (.istore_n 3, 1) := by decide +kernel
theorem d_S_sum_81 : decode Y_S_sum.2.1 81 = .ok (.iload_n 3, 1) := by decide +kernel
theorem d_S_sum_82 : decode Y_S_sum.2.1 82 = .ok (.aload_n 0, 1) := by decide +kernel
theorem d_S_sum_83 : decode Y_S_sum.2.1 83 = .ok (.getfield 27, 3) := by decide +kernel
theorem d_S_sum_86 : decode Y_S_sum.2.1 86 = .ok (.getfield 119, 3) := by decide +kernel
theorem d_S_sum_89 : decode Y_S_sum.2.1 89 = .ok (.if_icmp .ge 37, 3) := by decide +kernel
theorem d_S_sum_92 : decode Y_S_sum.2.1 92 = .ok (.aload_n 0, 1) := by decide +kernel
theorem d_S_sum_93 : decode Y_S_sum.2.1 93 = .ok (.getfield 91, 3) := by decide +kernel
theorem d_S_sum_96 : decode Y_S_sum.2.1 96 = .ok (.aload_n 0, 1) := by decide +kernel
theorem d_S_sum_97 : decode Y_S_sum.2.1 97 = .ok (.getfield 60, 3) := by decide +kernel
theorem d_S_sum_100 : decode Y_S_sum.2.1 100 = .ok (.getfield 211, 3) := by decide +kernel
theorem d_S_sum_103 : decode Y_S_sum.2.1 103 = .ok (.iload_n 3, 1) := by decide +kernel
theorem d_S_sum_104 : decode Y_S_sum.2.1 104 = .ok (.iaload, 1) := by decide +kernel
theorem d_S_sum_105 : decode Y_S_sum.2.1 105 = .ok (.invokevirtual 252, 3) := by decide +kernel
theorem d_S_sum_108 : decode Y_S_sum.2.1 108 = .ok (.iload_n 2, 1) := by decide +kernel
theorem d_S_sum_109 : decode Y_S_sum.2.1 109 = .ok (.aload_n 0, 1) := by decide +kernel
theorem d_S_sum_110 : decode Y_S_sum.2.1 110 = .ok (.getfield 60, 3) := by decide +kernel
theorem d_S_sum_113 : decode Y_S_sum.2.1 113 = .ok (.getfield 211, 3) := by decide +kernel
theorem d_S_sum_116 : decode Y_S_sum.2.1 116 = .ok (.iload_n 3, 1) := by decide +kernel
theorem d_S_sum_117 : decode Y_S_sum.2.1 117 = .ok (.iaload, 1) := by decide +kernel
theorem d_S_sum_118 : decode Y_S_sum.2.1 118 = .ok (.iadd, 1) := by decide +kernel
theorem d_S_sum_119 : decode Y_S_sum.2.1 119 = .ok (.istore_n 2, 1) := by decide +kernel
theorem d_S_sum_120 : decode Y_S_sum.2.1 120 = .ok (.iinc 3 1, 3) := by decide +kernel
theorem d_S_sum_123 : decode Y_S_sum.2.1 123 = .ok (.goto (-42), 3) := by decide +kernel
theorem d_S_sum_126 : decode Y_S_sum.2.1 126 = .ok (.iload_n 2, 1) := by decide +kernel
theorem d_S_sum_127 : decode Y_S_sum.2.1 127 = .ok (.ireturn, 1) := by decide +kernel
theorem e_S_sum {l : Launch} {G : GT} {d : Nat} {P : Int → MM → Prop} {m : MM} (x1 : Int)  (H : wfM m → inR x1 → ∃ (e1 : Nat) (P2 : MM → Prop), e1 < d ∧ CV l G Y_Lying_clear e1 [.inr (.inr 67)] m P2 ∧ (∀ m8, P2 m8 → wfM m8 → (∃ (e12 : Nat) (P13 : Int → MM → Prop), e12 < d ∧ CI l G Y_S_isFilled e12 [.inr (.inr 0), .inl x1] m8 P13 ∧ (∀ z18 m19, P13 z18 m19 → inR z18 → wfM m19 → ((z18 ≠ 0 → (∃ (e28 : Nat) (P29 : MM → Prop), e28 < d ∧ CV l G Y_Sand_take e28 [.inr (.inr 32), .inr (.inr 25)] m19 P29 ∧ (∀ m35, P29 m35 → wfM m35 → (Wq l G false Y_S_sum d (QI P) 30 [(0, .inr (.inr 0)), (1, .inl x1), (2, .inl 0)] [] m35)))) ∧ (¬ (z18 ≠ 0) → (P (-1) m19))))))) : CI l G Y_S_sum d [.inr (.inr 0), .inl x1] m P := by
  refine CI.of [(0, .inr (.inr 0)), (1, .inl x1)] k_S_sum.1 (Nat.le_of_ble_eq_true rfl) rfl (Wp.wf (fun hw _ hl hs => ?_))
  have H0 := H hw (hl _ (List.mem_of_getElem? (i := 1) rfl))
  refine Wp.aload_n 0 0 d_S_sum_0 rfl rfl ?_
  refine Wp.getP 67 d_S_sum_1 fl_S_91 rfl rfl rfl ?_
  obtain ⟨e1, P2, hd3, ho4, H5⟩ := H0
  refine Wq.VV (st := []) [] d_S_sum_4 k_Lying_clear ml_S_132 rfl rfl rfl (fun h => by cases h) (Nat.le_of_ble_eq_true rfl) hd3 ho4 (fun m8 hp9 hw11 => ?_)
  have H6 := H5 m8 hp9 hw11
  refine Wp.aload_n 0 0 d_S_sum_7 rfl rfl ?_
  refine Wp.iload_n 1 1 d_S_sum_8 rfl rfl ?_
  obtain ⟨e12, P13, hd14, ho15, H16⟩ := H6
  refine Wq.VI (st := []) [.inl x1] d_S_sum_9 k_S_isFilled ml_S_299 rfl rfl rfl (fun h => by cases h) (Nat.le_of_ble_eq_true rfl) hd14 ho15 (fun z18 m19 hp20 hz21 hw22 => ?_)
  have H17 := H16 z18 m19 hp20 hz21 hw22
  obtain ⟨H24, H25⟩ := H17
  refine Wp.if_ne 17 d_S_sum_12 (by decide) (fun c23 => ?_) (fun c23 => ?_)
  · have H26 := H24 c23
    refine Wp.aload_n 0 0 d_S_sum_17 rfl rfl ?_
    refine Wp.getP 32 d_S_sum_18 fl_S_60 rfl rfl rfl ?_
    refine Wp.aload_n 0 0 d_S_sum_21 rfl rfl ?_
    refine Wp.getP 25 d_S_sum_22 fl_S_34 rfl rfl rfl ?_
    obtain ⟨e28, P29, hd30, ho31, H32⟩ := H26
    refine Wq.VV (st := []) [.inr (.inr 25)] d_S_sum_25 k_Sand_take ml_S_199 rfl rfl rfl (fun h => by cases h) (Nat.le_of_ble_eq_true rfl) hd30 ho31 (fun m35 hp36 hw38 => ?_)
    have H33 := H32 m35 hp36 hw38
    refine Wp.iconst d_S_sum_28 (by decide) ?_
    refine Wp.istore_n 2 [(0, .inr (.inr 0)), (1, .inl x1), (2, .inl 0)] d_S_sum_29 rfl (by decide) rfl ?_
    exact H33
  · have H27 := H25 c23
    refine Wp.iconst d_S_sum_15 (by decide) ?_
    exact Wq.iret d_S_sum_16 rfl H27
theorem s_S_sum_30 {l : Launch} {G : GT} {d : Nat} {P : Int → MM → Prop} {m : MM} (x1 : Int) (x2 : Int)  (H : wfM m → inR x1 → inR x2 → ∃ b1 : Nat, m 0 5 = b1 ∧ isB b1 ∧ ((x2 ≥ (m b1 0) → (∃ b10 : Nat, m 0 5 = b10 ∧ isB b10 ∧ (∃ (e14 : Nat) (P15 : MM → Prop), e14 < d ∧ CV l G Y_Sand_calm e14 [.inr (.inr 32), .inr (.inr b10)] m P15 ∧ (∀ m21, P15 m21 → wfM m21 → (Wq l G false Y_S_sum d (QI P) 81 [(0, .inr (.inr 0)), (2, .inl 0), (3, .inl 0)] [] m21))))) ∧ (¬ (x2 ≥ (m b1 0)) → ((inR (x1 * 8)) ∧ ((inR ((x1 * 8) + x2)) ∧ ((0 ≤ ((x1 * 8) + x2) ∧ ((x1 * 8) + x2) < (24 : Int)) ∧ (∃ (e31 : Nat) (P32 : MM → Prop), e31 < d ∧ CV l G Y_Sand_put e31 [.inr (.inr 32), .inl x2, .inl (m 30 ((x1 * 8) + x2))] m P32 ∧ (∀ m38, P32 m38 → wfM m38 → ((inR (x2 + 1)) ∧ (Wq l G false Y_S_sum d (QI P) 30 [(0, .inr (.inr 0)), (1, .inl x1), (2, .inl (x2 + 1))] [] m38)))))))))) : Wq l G false Y_S_sum d (QI P) 30 [(0, .inr (.inr 0)), (1, .inl x1), (2, .inl x2)] [] m := by
  refine Wp.wf (fun hw _ hl hs => ?_)
  have H0 := H hw (hl _ (List.mem_of_getElem? (i := 1) rfl)) (hl _ (List.mem_of_getElem? (i := 2) rfl))
  refine Wp.iload_n 2 2 d_S_sum_30 rfl rfl ?_
  refine Wp.aload_n 0 0 d_S_sum_31 rfl rfl ?_
  obtain ⟨b1, hb2, hB3, H4⟩ := H0
  refine Wp.getR b1 d_S_sum_32 fl_S_27 rfl (Or.inl rfl) rfl hb2 ?_
  refine Wq.getI 0 rfl d_S_sum_35 fl_S_119 (isB_lay hB3) (Or.inl rfl) ?_
  obtain ⟨H6, H7⟩ := H4
  refine Wp.icmp_ge 66 d_S_sum_38 (by decide) (fun c5 => ?_) (fun c5 => ?_)
  · have H8 := H6 c5
    refine Wp.aload_n 0 0 d_S_sum_66 rfl rfl ?_
    refine Wp.getP 32 d_S_sum_67 fl_S_60 rfl rfl rfl ?_
    refine Wp.aload_n 0 0 d_S_sum_70 rfl rfl ?_
    obtain ⟨b10, hb11, hB12, H13⟩ := H8
    refine Wp.getR b10 d_S_sum_71 fl_S_27 rfl (Or.inl rfl) rfl hb11 ?_
    obtain ⟨e14, P15, hd16, ho17, H18⟩ := H13
    refine Wq.VV (st := []) [.inr (.inr b10)] d_S_sum_74 k_Sand_calm ml_S_202 rfl rfl rfl (fun h => by cases h) (Nat.le_of_ble_eq_true rfl) hd16 ho17 (fun m21 hp22 hw24 => ?_)
    have H19 := H18 m21 hp22 hw24
    refine Wp.iconst d_S_sum_77 (by decide) ?_
    refine Wp.istore_n 2 [(0, .inr (.inr 0)), (1, .inl x1), (2, .inl 0)] d_S_sum_78 rfl (by decide) rfl ?_
    refine Wp.iconst d_S_sum_79 (by decide) ?_
    refine Wp.istore_n 3 [(0, .inr (.inr 0)), (1, .inl x1), (2, .inl 0), (3, .inl 0)] d_S_sum_80 rfl (by decide) rfl ?_
    refine Wp.pick [0, 2, 3] [(0, .inr (.inr 0)), (2, .inl 0), (3, .inl 0)] rfl ?_
    exact H19
  · have H9 := H7 c5
    refine Wp.aload_n 0 0 d_S_sum_41 rfl rfl ?_
    refine Wp.getP 32 d_S_sum_42 fl_S_60 rfl rfl rfl ?_
    refine Wp.iload_n 2 2 d_S_sum_45 rfl rfl ?_
    refine Wp.aload_n 0 0 d_S_sum_46 rfl rfl ?_
    refine Wp.getP 30 d_S_sum_47 fl_S_50 rfl rfl rfl ?_
    refine Wp.iload_n 1 1 d_S_sum_50 rfl rfl ?_
    refine Wp.bipush d_S_sum_51 (by decide) (by decide) ?_
    obtain ⟨s25, H26⟩ := H9
    refine Wp.imul d_S_sum_53 s25 ?_
    refine Wp.iload_n 2 2 d_S_sum_54 rfl rfl ?_
    obtain ⟨s27, H28⟩ := H26
    refine Wp.iadd d_S_sum_55 s27 ?_
    obtain ⟨s29, H30⟩ := H28
    refine Wp.iald d_S_sum_56 rfl (Or.inl rfl) s29.1 s29.2 ?_
    obtain ⟨e31, P32, hd33, ho34, H35⟩ := H30
    refine Wq.VV (st := []) [.inl x2, .inl (m 30 ((x1 * 8) + x2))] d_S_sum_57 k_Sand_put ml_S_256 rfl rfl rfl (fun h => by cases h) (Nat.le_of_ble_eq_true rfl) hd33 ho34 (fun m38 hp39 hw41 => ?_)
    have H36 := H35 m38 hp39 hw41
    obtain ⟨s42, H43⟩ := H36
    refine Wp.iinc 2 2 [(0, .inr (.inr 0)), (1, .inl x1), (2, .inl (x2 + 1))] d_S_sum_60 rfl s42 (by decide) rfl ?_
    refine Wp.goto 30 d_S_sum_63 (by decide) ?_
    exact H43
theorem s_S_sum_81 {l : Launch} {G : GT} {d : Nat} {P : Int → MM → Prop} {m : MM} (x2 : Int) (x3 : Int)  (H : wfM m → inR x2 → inR x3 → ∃ b1 : Nat, m 0 5 = b1 ∧ isB b1 ∧ ((x3 ≥ (m b1 0) → (P x2 m)) ∧ (¬ (x3 ≥ (m b1 0)) → ((0 ≤ x3 ∧ x3 < (5 : Int)) ∧ (∃ (e12 : Nat) (P13 : MM → Prop), e12 < d ∧ CV l G Y_Lying_put e12 [.inr (.inr 67), .inl (m 33 x3)] m P13 ∧ (∀ m19, P13 m19 → wfM m19 → ((0 ≤ x3 ∧ x3 < (5 : Int)) ∧ ((inR (x2 + (m19 33 x3))) ∧ ((inR (x3 + 1)) ∧ (Wq l G false Y_S_sum d (QI P) 81 [(0, .inr (.inr 0)), (2, .inl (x2 + (m19 33 x3))), (3, .inl (x3 + 1))] [] m19)))))))))) : Wq l G false Y_S_sum d (QI P) 81 [(0, .inr (.inr 0)), (2, .inl x2), (3, .inl x3)] [] m := by
  refine Wp.wf (fun hw _ hl hs => ?_)
  have H0 := H hw (hl _ (List.mem_of_getElem? (i := 1) rfl)) (hl _ (List.mem_of_getElem? (i := 2) rfl))
  refine Wp.iload_n 2 3 d_S_sum_81 rfl rfl ?_
  refine Wp.aload_n 0 0 d_S_sum_82 rfl rfl ?_
  obtain ⟨b1, hb2, hB3, H4⟩ := H0
  refine Wp.getR b1 d_S_sum_83 fl_S_27 rfl (Or.inl rfl) rfl hb2 ?_
  refine Wq.getI 0 rfl d_S_sum_86 fl_S_119 (isB_lay hB3) (Or.inl rfl) ?_
  obtain ⟨H6, H7⟩ := H4
  refine Wp.icmp_ge 126 d_S_sum_89 (by decide) (fun c5 => ?_) (fun c5 => ?_)
  · have H8 := H6 c5
    refine Wp.iload_n 1 2 d_S_sum_126 rfl rfl ?_
    exact Wq.iret d_S_sum_127 rfl H8
  · have H9 := H7 c5
    refine Wp.aload_n 0 0 d_S_sum_92 rfl rfl ?_
    refine Wp.getP 67 d_S_sum_93 fl_S_91 rfl rfl rfl ?_
    refine Wp.aload_n 0 0 d_S_sum_96 rfl rfl ?_
    refine Wp.getP 32 d_S_sum_97 fl_S_60 rfl rfl rfl ?_
    refine Wp.getP 33 d_S_sum_100 fl_S_211 rfl rfl rfl ?_
    refine Wp.iload_n 2 3 d_S_sum_103 rfl rfl ?_
    obtain ⟨s10, H11⟩ := H9
    refine Wp.iald d_S_sum_104 rfl (Or.inl rfl) s10.1 s10.2 ?_
    obtain ⟨e12, P13, hd14, ho15, H16⟩ := H11
    refine Wq.VV (st := []) [.inl (m 33 x3)] d_S_sum_105 k_Lying_put ml_S_252 rfl rfl rfl (fun h => by cases h) (Nat.le_of_ble_eq_true rfl) hd14 ho15 (fun m19 hp20 hw22 => ?_)
    have H17 := H16 m19 hp20 hw22
    refine Wp.iload_n 1 2 d_S_sum_108 rfl rfl ?_
    refine Wp.aload_n 0 0 d_S_sum_109 rfl rfl ?_
    refine Wp.getP 32 d_S_sum_110 fl_S_60 rfl rfl rfl ?_
    refine Wp.getP 33 d_S_sum_113 fl_S_211 rfl rfl rfl ?_
    refine Wp.iload_n 2 3 d_S_sum_116 rfl rfl ?_
    obtain ⟨s23, H24⟩ := H17
    refine Wp.iald d_S_sum_117 rfl (Or.inl rfl) s23.1 s23.2 ?_
    obtain ⟨s25, H26⟩ := H24
    refine Wp.iadd d_S_sum_118 s25 ?_
    refine Wp.istore_n 2 [(0, .inr (.inr 0)), (2, .inl (x2 + (m19 33 x3))), (3, .inl x3)] d_S_sum_119 rfl (by decide) rfl ?_
    obtain ⟨s27, H28⟩ := H26
    refine Wp.iinc 2 3 [(0, .inr (.inr 0)), (2, .inl (x2 + (m19 33 x3))), (3, .inl (x3 + 1))] d_S_sum_120 rfl s27 (by decide) rfl ?_
    refine Wp.goto 81 d_S_sum_123 (by decide) ?_
    exact H28
theorem d_S_isFilled_0 : decode Y_S_isFilled.2.1 0 = .ok (.iload_n 1, 1) := by decide +kernel
theorem d_S_isFilled_1 : decode Y_S_isFilled.2.1 1 = .ok (.ifCond .lt 21, 3) := by decide +kernel
theorem d_S_isFilled_4 : decode Y_S_isFilled.2.1 4 = .ok (.iload_n 1, 1) := by decide +kernel
theorem d_S_isFilled_5 : decode Y_S_isFilled.2.1 5 = .ok (.iconst 3, 1) := by decide +kernel
theorem d_S_isFilled_6 : decode Y_S_isFilled.2.1 6 = .ok (.if_icmp .ge 16, 3) := by decide +kernel
theorem d_S_isFilled_9 : decode Y_S_isFilled.2.1 9 = .ok (.aload_n 0, 1) := by decide +kernel
theorem d_S_isFilled_10 : decode Y_S_isFilled.2.1 10 = .ok (.getfield 53, 3) := by decide +kernel
theorem d_S_isFilled_13 : decode Y_S_isFilled.2.1 13 = .ok (.iload_n 1, 1) := by decide +kernel
theorem d_S_isFilled_14 : decode Y_S_isFilled.2.1 14 = .ok (.baload, 1) := by decide +kernel
theorem d_S_isFilled_15 : decode Y_S_isFilled.2.1 15 = .ok (.ifCond .eq 7, 3) := by decide +kernel
theorem d_S_isFilled_18 : decode Y_S_isFilled.2.1 18 = .ok (.iconst 1, 1) := by decide +kernel
theorem d_S_isFilled_19 : decode Y_S_isFilled.2.1 19 = .ok (.goto 4, 3) := by decide +kernel
theorem d_S_isFilled_22 : decode Y_S_isFilled.2.1 22 = .ok (.iconst 0, 1) := by decide +kernel
theorem d_S_isFilled_23 : decode Y_S_isFilled.2.1 23 = .ok (.ireturn, 1) := by decide +kernel
theorem e_S_isFilled {l : Launch} {G : GT} {d : Nat} {P : Int → MM → Prop} {m : MM} (x1 : Int)  (H : wfM m → inR x1 → (x1 < 0 → (P 0 m)) ∧ (¬ (x1 < 0) → ((x1 ≥ 3 → (P 0 m)) ∧ (¬ (x1 ≥ 3) → ((0 ≤ x1 ∧ x1 < (3 : Int)) ∧ (((m 31 x1) = 0 → (P 0 m)) ∧ (¬ ((m 31 x1) = 0) → (P 1 m)))))))) : CI l G Y_S_isFilled d [.inr (.inr 0), .inl x1] m P := by
  refine CI.of [(0, .inr (.inr 0)), (1, .inl x1)] k_S_isFilled.1 (Nat.le_of_ble_eq_true rfl) rfl (Wp.wf (fun hw _ hl hs => ?_))
  have H0 := H hw (hl _ (List.mem_of_getElem? (i := 1) rfl))
  refine Wp.iload_n 1 1 d_S_isFilled_0 rfl rfl ?_
  obtain ⟨H2, H3⟩ := H0
  refine Wp.if_lt 22 d_S_isFilled_1 (by decide) (fun c1 => ?_) (fun c1 => ?_)
  · have H4 := H2 c1
    refine Wp.iconst d_S_isFilled_22 (by decide) ?_
    exact Wq.zret d_S_isFilled_23 rfl (by decide) H4
  · have H5 := H3 c1
    refine Wp.iload_n 1 1 d_S_isFilled_4 rfl rfl ?_
    refine Wp.iconst d_S_isFilled_5 (by decide) ?_
    obtain ⟨H7, H8⟩ := H5
    refine Wp.icmp_ge 22 d_S_isFilled_6 (by decide) (fun c6 => ?_) (fun c6 => ?_)
    · have H9 := H7 c6
      refine Wp.iconst d_S_isFilled_22 (by decide) ?_
      exact Wq.zret d_S_isFilled_23 rfl (by decide) H9
    · have H10 := H8 c6
      refine Wp.aload_n 0 0 d_S_isFilled_9 rfl rfl ?_
      refine Wp.getP 31 d_S_isFilled_10 fl_S_53 rfl rfl rfl ?_
      refine Wp.iload_n 1 1 d_S_isFilled_13 rfl rfl ?_
      obtain ⟨s11, H12⟩ := H10
      refine Wp.zald d_S_isFilled_14 rfl (Or.inl rfl) s11.1 s11.2 ?_
      obtain ⟨H14, H15⟩ := H12
      refine Wp.if_eq 22 d_S_isFilled_15 (by decide) (fun c13 => ?_) (fun c13 => ?_)
      · have H16 := H14 c13
        refine Wp.iconst d_S_isFilled_22 (by decide) ?_
        exact Wq.zret d_S_isFilled_23 rfl (by decide) H16
      · have H17 := H15 c13
        refine Wp.iconst d_S_isFilled_18 (by decide) ?_
        refine Wp.goto 23 d_S_isFilled_19 (by decide) ?_
        exact Wq.zret d_S_isFilled_23 rfl (by decide) H17
theorem d_S_one_0 : decode Y_S_one.2.1 0 = .ok (.aload_n 0, 1) := by decide +kernel
theorem d_S_one_1 : decode Y_S_one.2.1 1 = .ok (.iload_n 1, 1) := by decide +kernel
theorem d_S_one_2 : decode Y_S_one.2.1 2 = .ok (.invokevirtual 299, 3) := by decide +kernel
theorem d_S_one_5 : decode Y_S_one.2.1 5 = .ok (.ifCond .ne 5, 3) := by decide +kernel
theorem d_S_one_8 : decode Y_S_one.2.1 8 = .ok (.iconst (-1), 1) := by decide +kernel
theorem d_S_one_9 : decode Y_S_one.2.1 9 = .ok (.ireturn, 1) := by decide +kernel
theorem d_S_one_10 : decode Y_S_one.2.1 10 = .ok (.iconst 0, 1) := by decide +kernel
theorem d_S_one_11 : decode Y_S_one.2.1 11 = .ok (.istore_n 2, 1) := by decide +kernel
theorem d_S_one_12 : decode Y_S_one.2.1 12 = .ok (.iload_n 2, 1) := by decide +kernel
theorem d_S_one_13 : decode Y_S_one.2.1 13 = .ok (.iconst 5, 1) := by decide +kernel
theorem d_S_one_14 : decode Y_S_one.2.1 14 = .ok (.if_icmp .ge 33, 3) := by decide +kernel
theorem d_S_one_17 : decode Y_S_one.2.1 17 = .ok (.aload_n 0, 1) := by decide +kernel
theorem d_S_one_18 : decode Y_S_one.2.1 18 = .ok (.getfield 40, 3) := by decide +kernel
theorem d_S_one_21 : decode Y_S_one.2.1 21 = .ok (.iload_n 2, 1) := by decide +kernel
theorem d_S_one_22 : decode Y_S_one.2.1 22 = .ok (.aload_n 0, 1) := by decide +kernel
theorem d_S_one_23 : decode Y_S_one.2.1 23 = .ok (.getfield 34, 3) := by decide +kernel
theorem d_S_one_26 : decode Y_S_one.2.1 26 = .ok (.iload_n 2, 1) := by decide +kernel
theorem d_S_one_27 : decode Y_S_one.2.1 27 = .ok (.iaload, 1) := by decide +kernel
theorem d_S_one_28 : decode Y_S_one.2.1 28 = .ok (.aload_n 0, 1) := by decide +kernel
theorem d_S_one_29 : decode Y_S_one.2.1 29 = .ok (.getfield 50, 3) := by decide +kernel
theorem d_S_one_32 : decode Y_S_one.2.1 32 = .ok (.iload_n 1, 1) := by decide +kernel
theorem d_S_one_33 : decode Y_S_one.2.1 33 = .ok (.bipush 8, 2) := by decide +kernel
theorem d_S_one_35 : decode Y_S_one.2.1 35 = .ok (.imul, 1) := by decide +kernel
theorem d_S_one_36 : decode Y_S_one.2.1 36 = .ok (.iload_n 2, 1) := by decide +kernel
theorem d_S_one_37 : decode Y_S_one.2.1 37 = .ok (.iadd, 1) := by decide +kernel
theorem d_S_one_38 : decode Y_S_one.2.1 38 = .ok (.iaload, 1) := by decide +kernel
theorem d_S_one_39 : decode Y_S_one.2.1 39 = .ok (.isub, 1) := by decide +kernel
theorem d_S_one_40 : decode Y_S_one.2.1 40 = .ok (.iastore, 1) := by decide +kernel
theorem d_S_one_41 : decode Y_S_one.2.1 41 = .ok (.iinc 2 1, 3) := by decide +kernel
theorem d_S_one_44 : decode Y_S_one.2.1 44 = .ok (.goto (-32), 3) := by decide +kernel
theorem d_S_one_47 : decode Y_S_one.2.1 47 = .ok (.aload_n 0, 1) := by decide +kernel
theorem d_S_one_48 : decode Y_S_one.2.1 48 = .ok (.getfield 70, 3) := by decide +kernel
theorem d_S_one_51 : decode Y_S_one.2.1 51 = .ok (.aload_n 0, 1) := by decide +kernel
theorem d_S_one_52 : decode Y_S_one.2.1 52 = .ok (.getfield 27, 3) := by decide +kernel
theorem d_S_one_55 : decode Y_S_one.2.1 55 = .ok (.aload_n 0, 1) := by decide +kernel
theorem d_S_one_56 : decode Y_S_one.2.1 56 = .ok (.getfield 40, 3) := by decide +kernel
theorem d_S_one_59 : decode Y_S_one.2.1 59 = .ok (.invokevirtual 302, 3) := by decide +kernel
theorem d_S_one_62 : decode Y_S_one.2.1 62 = .ok (.lconst 1, 1) := by decide +kernel
theorem d_S_one_63 : decode Y_S_one.2.1 63 = .ok (.lcmp, 1) := by decide +kernel
theorem d_S_one_64 : decode Y_S_one.2.1 64 = .ok (.ifCond .ne 7, 3) := by decide +kernel
theorem d_S_one_67 : decode Y_S_one.2.1 67 = .ok (.iconst 1, 1) := by decide +kernel
theorem d_S_one_68 : decode Y_S_one.2.1 68 = .ok (.goto 4, 3) := by decide +kernel
theorem d_S_one_71 : decode Y_S_one.2.1 71 = .ok (.iconst 0, 1) := by decide +kernel
theorem d_S_one_72 : decode Y_S_one.2.1 72 = .ok (.ireturn, 1) := by decide +kernel
theorem e_S_one {l : Launch} {G : GT} {d : Nat} {P : Int → MM → Prop} {m : MM} (x1 : Int)  (H : wfM m → inR x1 → ∃ (e1 : Nat) (P2 : Int → MM → Prop), e1 < d ∧ CI l G Y_S_isFilled e1 [.inr (.inr 0), .inl x1] m P2 ∧ (∀ z7 m8, P2 z7 m8 → inR z7 → wfM m8 → ((z7 ≠ 0 → (Wq l G false Y_S_one d (QI P) 12 [(0, .inr (.inr 0)), (1, .inl x1), (2, .inl 0)] [] m8)) ∧ (¬ (z7 ≠ 0) → (P (-1) m8))))) : CI l G Y_S_one d [.inr (.inr 0), .inl x1] m P := by
  refine CI.of [(0, .inr (.inr 0)), (1, .inl x1)] k_S_one.1 (Nat.le_of_ble_eq_true rfl) rfl (Wp.wf (fun hw _ hl hs => ?_))
  have H0 := H hw (hl _ (List.mem_of_getElem? (i := 1) rfl))
  refine Wp.aload_n 0 0 d_S_one_0 rfl rfl ?_
  refine Wp.iload_n 1 1 d_S_one_1 rfl rfl ?_
  obtain ⟨e1, P2, hd3, ho4, H5⟩ := H0
  refine Wq.VI (st := []) [.inl x1] d_S_one_2 k_S_isFilled ml_S_299 rfl rfl rfl (fun h => by cases h) (Nat.le_of_ble_eq_true rfl) hd3 ho4 (fun z7 m8 hp9 hz10 hw11 => ?_)
  have H6 := H5 z7 m8 hp9 hz10 hw11
  obtain ⟨H13, H14⟩ := H6
  refine Wp.if_ne 10 d_S_one_5 (by decide) (fun c12 => ?_) (fun c12 => ?_)
  · have H15 := H13 c12
    refine Wp.iconst d_S_one_10 (by decide) ?_
    refine Wp.istore_n 2 [(0, .inr (.inr 0)), (1, .inl x1), (2, .inl 0)] d_S_one_11 rfl (by decide) rfl ?_
    exact H15
  · have H16 := H14 c12
    refine Wp.iconst d_S_one_8 (by decide) ?_
    exact Wq.iret d_S_one_9 rfl H16
theorem s_S_one_12 {l : Launch} {G : GT} {d : Nat} {P : Int → MM → Prop} {m : MM} (x1 : Int) (x2 : Int)  (H : wfM m → inR x1 → inR x2 → (x2 ≥ 5 → (∃ b6 : Nat, m 0 5 = b6 ∧ isB b6 ∧ (∃ (e10 : Nat) (P11 : Int → MM → Prop), e10 < d ∧ CJ l G Y_Group_turns e10 [.inr (.inr 38), .inr (.inr b6), .inr (.inr 27)] m P11 ∧ (∀ z16 m17, P11 z16 m17 → inL z16 → wfM m17 → ((z16 ≠ 1 → (P 0 m17)) ∧ (¬ (z16 ≠ 1) → (P 1 m17))))))) ∧ (¬ (x2 ≥ 5) → ((0 ≤ x2 ∧ x2 < (8 : Int)) ∧ ((inR (x1 * 8)) ∧ ((inR ((x1 * 8) + x2)) ∧ ((0 ≤ ((x1 * 8) + x2) ∧ ((x1 * 8) + x2) < (24 : Int)) ∧ ((inR ((m 25 x2) - (m 30 ((x1 * 8) + x2)))) ∧ ((0 ≤ x2 ∧ x2 < (8 : Int)) ∧ (∀ m36, m36 = up m 27 x2 ((m 25 x2) - (m 30 ((x1 * 8) + x2))) → ((inR (x2 + 1)) ∧ (Wq l G false Y_S_one d (QI P) 12 [(0, .inr (.inr 0)), (1, .inl x1), (2, .inl (x2 + 1))] [] m36))))))))))) : Wq l G false Y_S_one d (QI P) 12 [(0, .inr (.inr 0)), (1, .inl x1), (2, .inl x2)] [] m := by
  refine Wp.wf (fun hw _ hl hs => ?_)
  have H0 := H hw (hl _ (List.mem_of_getElem? (i := 1) rfl)) (hl _ (List.mem_of_getElem? (i := 2) rfl))
  refine Wp.iload_n 2 2 d_S_one_12 rfl rfl ?_
  refine Wp.iconst d_S_one_13 (by decide) ?_
  obtain ⟨H2, H3⟩ := H0
  refine Wp.icmp_ge 47 d_S_one_14 (by decide) (fun c1 => ?_) (fun c1 => ?_)
  · have H4 := H2 c1
    refine Wp.aload_n 0 0 d_S_one_47 rfl rfl ?_
    refine Wp.getP 38 d_S_one_48 fl_S_70 rfl rfl rfl ?_
    refine Wp.aload_n 0 0 d_S_one_51 rfl rfl ?_
    obtain ⟨b6, hb7, hB8, H9⟩ := H4
    refine Wp.getR b6 d_S_one_52 fl_S_27 rfl (Or.inl rfl) rfl hb7 ?_
    refine Wp.aload_n 0 0 d_S_one_55 rfl rfl ?_
    refine Wp.getP 27 d_S_one_56 fl_S_40 rfl rfl rfl ?_
    obtain ⟨e10, P11, hd12, ho13, H14⟩ := H9
    refine Wq.VJ (st := []) [.inr (.inr b6), .inr (.inr 27)] d_S_one_59 k_Group_turns ml_S_302 rfl rfl rfl (fun h => by cases h) (Nat.le_of_ble_eq_true rfl) hd12 ho13 (fun z16 m17 hp18 hz19 hw20 => ?_)
    have H15 := H14 z16 m17 hp18 hz19 hw20
    refine Wp.lconst (x := 1) d_S_one_62 (by decide) (by decide) ?_
    obtain ⟨H22, H23⟩ := H15
    refine Wq.lif_ne 71 d_S_one_63 d_S_one_64 (by decide) (fun c21 => ?_) (fun c21 => ?_)
    · have H24 := H22 c21
      refine Wp.iconst d_S_one_71 (by decide) ?_
      exact Wq.iret d_S_one_72 rfl H24
    · have H25 := H23 c21
      refine Wp.iconst d_S_one_67 (by decide) ?_
      refine Wp.goto 72 d_S_one_68 (by decide) ?_
      exact Wq.iret d_S_one_72 rfl H25
  · have H5 := H3 c1
    refine Wp.aload_n 0 0 d_S_one_17 rfl rfl ?_
    refine Wp.getP 27 d_S_one_18 fl_S_40 rfl rfl rfl ?_
    refine Wp.iload_n 2 2 d_S_one_21 rfl rfl ?_
    refine Wp.aload_n 0 0 d_S_one_22 rfl rfl ?_
    refine Wp.getP 25 d_S_one_23 fl_S_34 rfl rfl rfl ?_
    refine Wp.iload_n 2 2 d_S_one_26 rfl rfl ?_
    obtain ⟨s26, H27⟩ := H5
    refine Wp.iald d_S_one_27 rfl (Or.inl rfl) s26.1 s26.2 ?_
    refine Wp.aload_n 0 0 d_S_one_28 rfl rfl ?_
    refine Wp.getP 30 d_S_one_29 fl_S_50 rfl rfl rfl ?_
    refine Wp.iload_n 1 1 d_S_one_32 rfl rfl ?_
    refine Wp.bipush d_S_one_33 (by decide) (by decide) ?_
    obtain ⟨s28, H29⟩ := H27
    refine Wp.imul d_S_one_35 s28 ?_
    refine Wp.iload_n 2 2 d_S_one_36 rfl rfl ?_
    obtain ⟨s30, H31⟩ := H29
    refine Wp.iadd d_S_one_37 s30 ?_
    obtain ⟨s32, H33⟩ := H31
    refine Wp.iald d_S_one_38 rfl (Or.inl rfl) s32.1 s32.2 ?_
    obtain ⟨s34, H35⟩ := H33
    refine Wp.isub d_S_one_39 s34 ?_
    obtain ⟨s43, H44⟩ := H35
    refine Wq.iast d_S_one_40 rfl s43.1 s43.2 (fun m36 hm37 => ?_)
    have H38 := H44 m36 hm37
    obtain ⟨s41, H42⟩ := H38
    refine Wp.iinc 2 2 [(0, .inr (.inr 0)), (1, .inl x1), (2, .inl (x2 + 1))] d_S_one_41 rfl s41 (by decide) rfl ?_
    refine Wp.goto 12 d_S_one_44 (by decide) ?_
    exact H42
theorem d_S_cycle_0 : decode Y_S_cycle.2.1 0 = .ok (.aload_n 0, 1) := by decide +kernel
theorem d_S_cycle_1 : decode Y_S_cycle.2.1 1 = .ok (.aload_n 0, 1) := by decide +kernel
theorem d_S_cycle_2 : decode Y_S_cycle.2.1 2 = .ok (.getfield 34, 3) := by decide +kernel
theorem d_S_cycle_5 : decode Y_S_cycle.2.1 5 = .ok (.invokevirtual 306, 3) := by decide +kernel
theorem d_S_cycle_8 : decode Y_S_cycle.2.1 8 = .ok (.ireturn, 1) := by decide +kernel
theorem e_S_cycle {l : Launch} {G : GT} {d : Nat} {P : Int → MM → Prop} {m : MM}   (H : wfM m → ∃ (e1 : Nat) (P2 : Int → MM → Prop), e1 < d ∧ CI l G Y_S_turnsOrNone e1 [.inr (.inr 0), .inr (.inr 25)] m P2 ∧ (∀ z7 m8, P2 z7 m8 → inR z7 → wfM m8 → (P z7 m8))) : CI l G Y_S_cycle d [.inr (.inr 0)] m P := by
  refine CI.of [(0, .inr (.inr 0))] k_S_cycle.1 (Nat.le_of_ble_eq_true rfl) rfl (Wp.wf (fun hw _ hl hs => ?_))
  have H0 := H hw
  refine Wp.aload_n 0 0 d_S_cycle_0 rfl rfl ?_
  refine Wp.aload_n 0 0 d_S_cycle_1 rfl rfl ?_
  refine Wp.getP 25 d_S_cycle_2 fl_S_34 rfl rfl rfl ?_
  obtain ⟨e1, P2, hd3, ho4, H5⟩ := H0
  refine Wq.VI (st := []) [.inr (.inr 25)] d_S_cycle_5 k_S_turnsOrNone ml_S_306 rfl rfl rfl (fun h => by cases h) (Nat.le_of_ble_eq_true rfl) hd3 ho4 (fun z7 m8 hp9 hz10 hw11 => ?_)
  have H6 := H5 z7 m8 hp9 hz10 hw11
  exact Wq.iret d_S_cycle_8 rfl H6
theorem d_S_turnsOrNone_0 : decode Y_S_turnsOrNone.2.1 0 = .ok (.aload_n 0, 1) := by decide +kernel
theorem d_S_turnsOrNone_1 : decode Y_S_turnsOrNone.2.1 1 = .ok (.getfield 70, 3) := by decide +kernel
theorem d_S_turnsOrNone_4 : decode Y_S_turnsOrNone.2.1 4 = .ok (.aload_n 0, 1) := by decide +kernel
theorem d_S_turnsOrNone_5 : decode Y_S_turnsOrNone.2.1 5 = .ok (.getfield 27, 3) := by decide +kernel
theorem d_S_turnsOrNone_8 : decode Y_S_turnsOrNone.2.1 8 = .ok (.aload_n 1, 1) := by decide +kernel
theorem d_S_turnsOrNone_9 : decode Y_S_turnsOrNone.2.1 9 = .ok (.invokevirtual 302, 3) := by decide +kernel
theorem d_S_turnsOrNone_12 : decode Y_S_turnsOrNone.2.1 12 = .ok (.lstore_n 2, 1) := by decide +kernel
theorem d_S_turnsOrNone_13 : decode Y_S_turnsOrNone.2.1 13 = .ok (.lload_n 2, 1) := by decide +kernel
theorem d_S_turnsOrNone_14 : decode Y_S_turnsOrNone.2.1 14 = .ok (.ldc2_w 309, 3) := by decide +kernel
theorem d_S_turnsOrNone_17 : decode Y_S_turnsOrNone.2.1 17 = .ok (.lcmp, 1) := by decide +kernel
theorem d_S_turnsOrNone_18 : decode Y_S_turnsOrNone.2.1 18 = .ok (.ifCond .le 7, 3) := by decide +kernel
theorem d_S_turnsOrNone_21 : decode Y_S_turnsOrNone.2.1 21 = .ok (.iconst (-1), 1) := by decide +kernel
theorem d_S_turnsOrNone_22 : decode Y_S_turnsOrNone.2.1 22 = .ok (.goto 5, 3) := by decide +kernel
theorem d_S_turnsOrNone_25 : decode Y_S_turnsOrNone.2.1 25 = .ok (.lload_n 2, 1) := by decide +kernel
theorem d_S_turnsOrNone_26 : decode Y_S_turnsOrNone.2.1 26 = .ok (.l2i, 1) := by decide +kernel
theorem d_S_turnsOrNone_27 : decode Y_S_turnsOrNone.2.1 27 = .ok (.ireturn, 1) := by decide +kernel
theorem e_S_turnsOrNone {l : Launch} {G : GT} {d : Nat} {P : Int → MM → Prop} {m : MM} (h1 : Nat) (n1 : Nat) (hl1 : q_lay h1 = .inr (0, n1)) (hlt_h1 : n1 < 2147483648) (H : wfM m → ∃ b1 : Nat, m 0 5 = b1 ∧ isB b1 ∧ (∃ (e5 : Nat) (P6 : Int → MM → Prop), e5 < d ∧ CJ l G Y_Group_turns e5 [.inr (.inr 38), .inr (.inr b1), .inr (.inr h1)] m P6 ∧ (∀ z11 m12, P6 z11 m12 → inL z11 → wfM m12 → ((z11 ≤ 2000 → ((inR z11) ∧ (P z11 m12))) ∧ (¬ (z11 ≤ 2000) → (P (-1) m12)))))) : CI l G Y_S_turnsOrNone d [.inr (.inr 0), .inr (.inr h1)] m P := by
  refine CI.of [(0, .inr (.inr 0)), (1, .inr (.inr h1))] k_S_turnsOrNone.1 (Nat.le_of_ble_eq_true rfl) rfl (Wp.wf (fun hw _ hl hs => ?_))
  have H0 := H hw
  refine Wp.aload_n 0 0 d_S_turnsOrNone_0 rfl rfl ?_
  refine Wp.getP 38 d_S_turnsOrNone_1 fl_S_70 rfl rfl rfl ?_
  refine Wp.aload_n 0 0 d_S_turnsOrNone_4 rfl rfl ?_
  obtain ⟨b1, hb2, hB3, H4⟩ := H0
  refine Wp.getR b1 d_S_turnsOrNone_5 fl_S_27 rfl (Or.inl rfl) rfl hb2 ?_
  refine Wp.aload_n 1 1 d_S_turnsOrNone_8 rfl rfl ?_
  obtain ⟨e5, P6, hd7, ho8, H9⟩ := H4
  refine Wq.VJ (st := []) [.inr (.inr b1), .inr (.inr h1)] d_S_turnsOrNone_9 k_Group_turns ml_S_302 rfl rfl rfl (fun h => by cases h) (Nat.le_of_ble_eq_true rfl) hd7 ho8 (fun z11 m12 hp13 hz14 hw15 => ?_)
  have H10 := H9 z11 m12 hp13 hz14 hw15
  refine Wp.lstore_n 2 [(0, .inr (.inr 0)), (1, .inr (.inr h1)), (2, .inr (.inl z11))] d_S_turnsOrNone_12 rfl (by decide) rfl ?_
  refine Wp.lload_n 2 2 d_S_turnsOrNone_13 rfl rfl ?_
  refine Wp.ldc2 (z := 2000) d_S_turnsOrNone_14 kl_S_309 (by decide) (by decide) ?_
  obtain ⟨H17, H18⟩ := H10
  refine Wq.lif_le 25 d_S_turnsOrNone_17 d_S_turnsOrNone_18 (by decide) (fun c16 => ?_) (fun c16 => ?_)
  · have H19 := H17 c16
    refine Wp.lload_n 2 2 d_S_turnsOrNone_25 rfl rfl ?_
    obtain ⟨s21, H22⟩ := H19
    refine Wq.l2i d_S_turnsOrNone_26 s21 ?_
    exact Wq.iret d_S_turnsOrNone_27 rfl H22
  · have H20 := H18 c16
    refine Wp.iconst d_S_turnsOrNone_21 (by decide) ?_
    refine Wp.goto 27 d_S_turnsOrNone_22 (by decide) ?_
    exact Wq.iret d_S_turnsOrNone_27 rfl H20
theorem d_S_wheel_0 : decode Y_S_wheel.2.1 0 = .ok (.aload_n 0, 1) := by decide +kernel
theorem d_S_wheel_1 : decode Y_S_wheel.2.1 1 = .ok (.getfield 27, 3) := by decide +kernel
theorem d_S_wheel_4 : decode Y_S_wheel.2.1 4 = .ok (.iload_n 1, 1) := by decide +kernel
theorem d_S_wheel_5 : decode Y_S_wheel.2.1 5 = .ok (.invokevirtual 142, 3) := by decide +kernel
theorem d_S_wheel_8 : decode Y_S_wheel.2.1 8 = .ok (.ifCond .ne 5, 3) := by decide +kernel
theorem d_S_wheel_11 : decode Y_S_wheel.2.1 11 = .ok (.iconst (-1), 1) := by decide +kernel
theorem d_S_wheel_12 : decode Y_S_wheel.2.1 12 = .ok (.ireturn, 1) := by decide +kernel
theorem d_S_wheel_13 : decode Y_S_wheel.2.1 13 = .ok (.aload_n 0, 1) := by decide +kernel
theorem d_S_wheel_14 : decode Y_S_wheel.2.1 14 = .ok (.getfield 40, 3) := by decide +kernel
theorem d_S_wheel_17 : decode Y_S_wheel.2.1 17 = .ok (.iconst 0, 1) := by decide +kernel
theorem d_S_wheel_18 : decode Y_S_wheel.2.1 18 = .ok (.invokestatic 286, 3) := by decide +kernel
theorem d_S_wheel_21 : decode Y_S_wheel.2.1 21 = .ok (.aload_n 0, 1) := by decide +kernel
theorem d_S_wheel_22 : decode Y_S_wheel.2.1 22 = .ok (.getfield 40, 3) := by decide +kernel
theorem d_S_wheel_25 : decode Y_S_wheel.2.1 25 = .ok (.iload_n 1, 1) := by decide +kernel
theorem d_S_wheel_26 : decode Y_S_wheel.2.1 26 = .ok (.iconst 1, 1) := by decide +kernel
theorem d_S_wheel_27 : decode Y_S_wheel.2.1 27 = .ok (.iastore, 1) := by decide +kernel
theorem d_S_wheel_28 : decode Y_S_wheel.2.1 28 = .ok (.aload_n 0, 1) := by decide +kernel
theorem d_S_wheel_29 : decode Y_S_wheel.2.1 29 = .ok (.aload_n 0, 1) := by decide +kernel
theorem d_S_wheel_30 : decode Y_S_wheel.2.1 30 = .ok (.getfield 40, 3) := by decide +kernel
theorem d_S_wheel_33 : decode Y_S_wheel.2.1 33 = .ok (.invokevirtual 306, 3) := by decide +kernel
theorem d_S_wheel_36 : decode Y_S_wheel.2.1 36 = .ok (.ireturn, 1) := by decide +kernel
theorem e_S_wheel {l : Launch} {G : GT} {d : Nat} {P : Int → MM → Prop} {m : MM} (x1 : Int)  (H : wfM m → inR x1 → ∃ b1 : Nat, m 0 5 = b1 ∧ isB b1 ∧ (∃ (e5 : Nat) (P6 : Int → MM → Prop), e5 < d ∧ CI l G Y_Board_has e5 [.inr (.inr b1), .inl x1] m P6 ∧ (∀ z11 m12, P6 z11 m12 → inR z11 → wfM m12 → ((z11 ≠ 0 → (∃ (e21 : Nat) (P22 : MM → Prop), e21 < d ∧ CV l G Y_Arrays_fill e21 [.inr (.inr 27), .inl 0] m12 P22 ∧ (∀ m28, P22 m28 → wfM m28 → ((0 ≤ x1 ∧ x1 < (8 : Int)) ∧ (∀ m32, m32 = up m28 27 x1 1 → (∃ (e37 : Nat) (P38 : Int → MM → Prop), e37 < d ∧ CI l G Y_S_turnsOrNone e37 [.inr (.inr 0), .inr (.inr 27)] m32 P38 ∧ (∀ z43 m44, P38 z43 m44 → inR z43 → wfM m44 → (P z43 m44)))))))) ∧ (¬ (z11 ≠ 0) → (P (-1) m12)))))) : CI l G Y_S_wheel d [.inr (.inr 0), .inl x1] m P := by
  refine CI.of [(0, .inr (.inr 0)), (1, .inl x1)] k_S_wheel.1 (Nat.le_of_ble_eq_true rfl) rfl (Wp.wf (fun hw _ hl hs => ?_))
  have H0 := H hw (hl _ (List.mem_of_getElem? (i := 1) rfl))
  refine Wp.aload_n 0 0 d_S_wheel_0 rfl rfl ?_
  obtain ⟨b1, hb2, hB3, H4⟩ := H0
  refine Wp.getR b1 d_S_wheel_1 fl_S_27 rfl (Or.inl rfl) rfl hb2 ?_
  refine Wp.iload_n 1 1 d_S_wheel_4 rfl rfl ?_
  obtain ⟨e5, P6, hd7, ho8, H9⟩ := H4
  refine Wq.VI (st := []) [.inl x1] d_S_wheel_5 k_Board_has ml_S_142 rfl (isB_lay hB3) rfl (fun h => by cases h) (Nat.le_of_ble_eq_true rfl) hd7 ho8 (fun z11 m12 hp13 hz14 hw15 => ?_)
  have H10 := H9 z11 m12 hp13 hz14 hw15
  obtain ⟨H17, H18⟩ := H10
  refine Wp.if_ne 13 d_S_wheel_8 (by decide) (fun c16 => ?_) (fun c16 => ?_)
  · have H19 := H17 c16
    refine Wp.aload_n 0 0 d_S_wheel_13 rfl rfl ?_
    refine Wp.getP 27 d_S_wheel_14 fl_S_40 rfl rfl rfl ?_
    refine Wp.iconst d_S_wheel_17 (by decide) ?_
    obtain ⟨e21, P22, hd23, ho24, H25⟩ := H19
    refine Wq.SV (st := []) [.inr (.inr 27), .inl 0] d_S_wheel_18 k_Arrays_fill ml_S_286 rfl  (fun h => by cases h) (Nat.le_of_ble_eq_true rfl) hd23 ho24 (fun m28 hp29 hw31 => ?_)
    have H26 := H25 m28 hp29 hw31
    refine Wp.aload_n 0 0 d_S_wheel_21 rfl rfl ?_
    refine Wp.getP 27 d_S_wheel_22 fl_S_40 rfl rfl rfl ?_
    refine Wp.iload_n 1 1 d_S_wheel_25 rfl rfl ?_
    refine Wp.iconst d_S_wheel_26 (by decide) ?_
    obtain ⟨s48, H49⟩ := H26
    refine Wq.iast d_S_wheel_27 rfl s48.1 s48.2 (fun m32 hm33 => ?_)
    have H34 := H49 m32 hm33
    refine Wp.aload_n 0 0 d_S_wheel_28 rfl rfl ?_
    refine Wp.aload_n 0 0 d_S_wheel_29 rfl rfl ?_
    refine Wp.getP 27 d_S_wheel_30 fl_S_40 rfl rfl rfl ?_
    obtain ⟨e37, P38, hd39, ho40, H41⟩ := H34
    refine Wq.VI (st := []) [.inr (.inr 27)] d_S_wheel_33 k_S_turnsOrNone ml_S_306 rfl rfl rfl (fun h => by cases h) (Nat.le_of_ble_eq_true rfl) hd39 ho40 (fun z43 m44 hp45 hz46 hw47 => ?_)
    have H42 := H41 z43 m44 hp45 hz46 hw47
    exact Wq.iret d_S_wheel_36 rfl H42
  · have H20 := H18 c16
    refine Wp.iconst d_S_wheel_11 (by decide) ?_
    exact Wq.iret d_S_wheel_12 rfl H20
theorem d_S_credit_0 : decode Y_S_credit.2.1 0 = .ok (.aload_n 0, 1) := by decide +kernel
theorem d_S_credit_1 : decode Y_S_credit.2.1 1 = .ok (.getfield 34, 3) := by decide +kernel
theorem d_S_credit_4 : decode Y_S_credit.2.1 4 = .ok (.iconst 0, 1) := by decide +kernel
theorem d_S_credit_5 : decode Y_S_credit.2.1 5 = .ok (.aload_n 0, 1) := by decide +kernel
theorem d_S_credit_6 : decode Y_S_credit.2.1 6 = .ok (.getfield 40, 3) := by decide +kernel
theorem d_S_credit_9 : decode Y_S_credit.2.1 9 = .ok (.iconst 0, 1) := by decide +kernel
theorem d_S_credit_10 : decode Y_S_credit.2.1 10 = .ok (.bipush 8, 2) := by decide +kernel
theorem d_S_credit_12 : decode Y_S_credit.2.1 12 = .ok (.invokestatic 232, 3) := by decide +kernel
theorem d_S_credit_15 : decode Y_S_credit.2.1 15 = .ok (.aload_n 0, 1) := by decide +kernel
theorem d_S_credit_16 : decode Y_S_credit.2.1 16 = .ok (.getfield 70, 3) := by decide +kernel
theorem d_S_credit_19 : decode Y_S_credit.2.1 19 = .ok (.aload_n 0, 1) := by decide +kernel
theorem d_S_credit_20 : decode Y_S_credit.2.1 20 = .ok (.getfield 27, 3) := by decide +kernel
theorem d_S_credit_23 : decode Y_S_credit.2.1 23 = .ok (.aload_n 0, 1) := by decide +kernel
theorem d_S_credit_24 : decode Y_S_credit.2.1 24 = .ok (.getfield 40, 3) := by decide +kernel
theorem d_S_credit_27 : decode Y_S_credit.2.1 27 = .ok (.invokevirtual 296, 3) := by decide +kernel
theorem d_S_credit_30 : decode Y_S_credit.2.1 30 = .ok (.aload_n 0, 1) := by decide +kernel
theorem d_S_credit_31 : decode Y_S_credit.2.1 31 = .ok (.getfield 27, 3) := by decide +kernel
theorem d_S_credit_34 : decode Y_S_credit.2.1 34 = .ok (.aload_n 0, 1) := by decide +kernel
theorem d_S_credit_35 : decode Y_S_credit.2.1 35 = .ok (.getfield 34, 3) := by decide +kernel
theorem d_S_credit_38 : decode Y_S_credit.2.1 38 = .ok (.invokevirtual 311, 3) := by decide +kernel
theorem d_S_credit_41 : decode Y_S_credit.2.1 41 = .ok (.aload_n 0, 1) := by decide +kernel
theorem d_S_credit_42 : decode Y_S_credit.2.1 42 = .ok (.getfield 27, 3) := by decide +kernel
theorem d_S_credit_45 : decode Y_S_credit.2.1 45 = .ok (.aload_n 0, 1) := by decide +kernel
theorem d_S_credit_46 : decode Y_S_credit.2.1 46 = .ok (.getfield 40, 3) := by decide +kernel
theorem d_S_credit_49 : decode Y_S_credit.2.1 49 = .ok (.invokevirtual 311, 3) := by decide +kernel
theorem d_S_credit_52 : decode Y_S_credit.2.1 52 = .ok (.isub, 1) := by decide +kernel
theorem d_S_credit_53 : decode Y_S_credit.2.1 53 = .ok (.ireturn, 1) := by decide +kernel
theorem e_S_credit {l : Launch} {G : GT} {d : Nat} {P : Int → MM → Prop} {m : MM}   (hd1 : 1 ≤ d) (H : wfM m → ((0 : Int) ≤ 0 ∧ (0 : Int) ≤ 0 ∧ (0 : Int) < 8 ∧ (0 : Int) + 8 ≤ (8 : Nat) ∧ (0 : Int) + 8 ≤ (8 : Nat)) ∧ (∀ m1, m1 = upC m 25 27 0 0 8 → (∃ b6 : Nat, m1 0 5 = b6 ∧ isB b6 ∧ (∃ (e10 : Nat) (P11 : MM → Prop), e10 < d ∧ CV l G Y_Group_toBare e10 [.inr (.inr 38), .inr (.inr b6), .inr (.inr 27)] m1 P11 ∧ (∀ m17, P11 m17 → wfM m17 → (∃ b21 : Nat, m17 0 5 = b21 ∧ isB b21 ∧ (∃ (e25 : Nat) (P26 : Int → MM → Prop), e25 < d ∧ CI l G Y_Board_grainsOf e25 [.inr (.inr b21), .inr (.inr 25)] m17 P26 ∧ (∀ z31 m32, P26 z31 m32 → inR z31 → wfM m32 → (∃ b36 : Nat, m32 0 5 = b36 ∧ isB b36 ∧ (∃ (e40 : Nat) (P41 : Int → MM → Prop), e40 < d ∧ CI l G Y_Board_grainsOf e40 [.inr (.inr b36), .inr (.inr 27)] m32 P41 ∧ (∀ z46 m47, P41 z46 m47 → inR z46 → wfM m47 → ((inR (z31 - z46)) ∧ (P (z31 - z46) m47))))))))))))) : CI l G Y_S_credit d [.inr (.inr 0)] m P := by
  refine CI.of [(0, .inr (.inr 0))] k_S_credit.1 (Nat.le_of_ble_eq_true rfl) rfl (Wp.wf (fun hw _ hl hs => ?_))
  have H0 := H hw
  refine Wp.aload_n 0 0 d_S_credit_0 rfl rfl ?_
  refine Wp.getP 25 d_S_credit_1 fl_S_34 rfl rfl rfl ?_
  refine Wp.iconst d_S_credit_4 (by decide) ?_
  refine Wp.aload_n 0 0 d_S_credit_5 rfl rfl ?_
  refine Wp.getP 27 d_S_credit_6 fl_S_40 rfl rfl rfl ?_
  refine Wp.iconst d_S_credit_9 (by decide) ?_
  refine Wp.bipush d_S_credit_10 (by decide) (by decide) ?_
  obtain ⟨s5, H4⟩ := H0
  refine Wq.acopy d_S_credit_12 ml_S_232 rfl rfl (by decide) (by decide) hd1 (fun h => by cases h) (Nat.le_of_ble_eq_true rfl) s5 (fun m1 hm2 => ?_)
  have H3 := H4 m1 hm2
  refine Wp.aload_n 0 0 d_S_credit_15 rfl rfl ?_
  refine Wp.getP 38 d_S_credit_16 fl_S_70 rfl rfl rfl ?_
  refine Wp.aload_n 0 0 d_S_credit_19 rfl rfl ?_
  obtain ⟨b6, hb7, hB8, H9⟩ := H3
  refine Wp.getR b6 d_S_credit_20 fl_S_27 rfl (Or.inl rfl) rfl hb7 ?_
  refine Wp.aload_n 0 0 d_S_credit_23 rfl rfl ?_
  refine Wp.getP 27 d_S_credit_24 fl_S_40 rfl rfl rfl ?_
  obtain ⟨e10, P11, hd12, ho13, H14⟩ := H9
  refine Wq.VV (st := []) [.inr (.inr b6), .inr (.inr 27)] d_S_credit_27 k_Group_toBare ml_S_296 rfl rfl rfl (fun h => by cases h) (Nat.le_of_ble_eq_true rfl) hd12 ho13 (fun m17 hp18 hw20 => ?_)
  have H15 := H14 m17 hp18 hw20
  refine Wp.aload_n 0 0 d_S_credit_30 rfl rfl ?_
  obtain ⟨b21, hb22, hB23, H24⟩ := H15
  refine Wp.getR b21 d_S_credit_31 fl_S_27 rfl (Or.inl rfl) rfl hb22 ?_
  refine Wp.aload_n 0 0 d_S_credit_34 rfl rfl ?_
  refine Wp.getP 25 d_S_credit_35 fl_S_34 rfl rfl rfl ?_
  obtain ⟨e25, P26, hd27, ho28, H29⟩ := H24
  refine Wq.VI (st := []) [.inr (.inr 25)] d_S_credit_38 k_Board_grainsOf ml_S_311 rfl (isB_lay hB23) rfl (fun h => by cases h) (Nat.le_of_ble_eq_true rfl) hd27 ho28 (fun z31 m32 hp33 hz34 hw35 => ?_)
  have H30 := H29 z31 m32 hp33 hz34 hw35
  refine Wp.aload_n 0 0 d_S_credit_41 rfl rfl ?_
  obtain ⟨b36, hb37, hB38, H39⟩ := H30
  refine Wp.getR b36 d_S_credit_42 fl_S_27 rfl (Or.inl rfl) rfl hb37 ?_
  refine Wp.aload_n 0 0 d_S_credit_45 rfl rfl ?_
  refine Wp.getP 27 d_S_credit_46 fl_S_40 rfl rfl rfl ?_
  obtain ⟨e40, P41, hd42, ho43, H44⟩ := H39
  refine Wq.VI (st := [.inl z31]) [.inr (.inr 27)] d_S_credit_49 k_Board_grainsOf ml_S_311 rfl (isB_lay hB38) rfl (fun h => by cases h) (Nat.le_of_ble_eq_true rfl) hd42 ho43 (fun z46 m47 hp48 hz49 hw50 => ?_)
  have H45 := H44 z46 m47 hp48 hz49 hw50
  obtain ⟨s51, H52⟩ := H45
  refine Wp.isub d_S_credit_52 s51 ?_
  exact Wq.iret d_S_credit_53 rfl H52
theorem d_S_rank_0 : decode Y_S_rank.2.1 0 = .ok (.iload_n 1, 1) := by decide +kernel
theorem d_S_rank_1 : decode Y_S_rank.2.1 1 = .ok (.bipush (-30), 2) := by decide +kernel
theorem d_S_rank_3 : decode Y_S_rank.2.1 3 = .ok (.if_icmp .lt 9, 3) := by decide +kernel
theorem d_S_rank_6 : decode Y_S_rank.2.1 6 = .ok (.iload_n 1, 1) := by decide +kernel
theorem d_S_rank_7 : decode Y_S_rank.2.1 7 = .ok (.bipush 30, 2) := by decide +kernel
theorem d_S_rank_9 : decode Y_S_rank.2.1 9 = .ok (.if_icmp .le 6, 3) := by decide +kernel
theorem d_S_rank_12 : decode Y_S_rank.2.1 12 = .ok (.bipush (-2), 2) := by decide +kernel
theorem d_S_rank_14 : decode Y_S_rank.2.1 14 = .ok (.ireturn, 1) := by decide +kernel
theorem d_S_rank_15 : decode Y_S_rank.2.1 15 = .ok (.aload_n 0, 1) := by decide +kernel
theorem d_S_rank_16 : decode Y_S_rank.2.1 16 = .ok (.getfield 27, 3) := by decide +kernel
theorem d_S_rank_19 : decode Y_S_rank.2.1 19 = .ok (.aload_n 0, 1) := by decide +kernel
theorem d_S_rank_20 : decode Y_S_rank.2.1 20 = .ok (.getfield 34, 3) := by decide +kernel
theorem d_S_rank_23 : decode Y_S_rank.2.1 23 = .ok (.invokevirtual 311, 3) := by decide +kernel
theorem d_S_rank_26 : decode Y_S_rank.2.1 26 = .ok (.iload_n 1, 1) := by decide +kernel
theorem d_S_rank_27 : decode Y_S_rank.2.1 27 = .ok (.iadd, 1) := by decide +kernel
theorem d_S_rank_28 : decode Y_S_rank.2.1 28 = .ok (.istore_n 2, 1) := by decide +kernel
theorem d_S_rank_29 : decode Y_S_rank.2.1 29 = .ok (.aload_n 0, 1) := by decide +kernel
theorem d_S_rank_30 : decode Y_S_rank.2.1 30 = .ok (.getfield 34, 3) := by decide +kernel
theorem d_S_rank_33 : decode Y_S_rank.2.1 33 = .ok (.iconst 0, 1) := by decide +kernel
theorem d_S_rank_34 : decode Y_S_rank.2.1 34 = .ok (.aload_n 0, 1) := by decide +kernel
theorem d_S_rank_35 : decode Y_S_rank.2.1 35 = .ok (.getfield 40, 3) := by decide +kernel
theorem d_S_rank_38 : decode Y_S_rank.2.1 38 = .ok (.iconst 0, 1) := by decide +kernel
theorem d_S_rank_39 : decode Y_S_rank.2.1 39 = .ok (.bipush 8, 2) := by decide +kernel
theorem d_S_rank_41 : decode Y_S_rank.2.1 41 = .ok (.invokestatic 232, 3) := by decide +kernel
theorem d_S_rank_44 : decode Y_S_rank.2.1 44 = .ok (.aload_n 0, 1) := by decide +kernel
theorem d_S_rank_45 : decode Y_S_rank.2.1 45 = .ok (.getfield 70, 3) := by decide +kernel
theorem d_S_rank_48 : decode Y_S_rank.2.1 48 = .ok (.aload_n 0, 1) := by decide +kernel
theorem d_S_rank_49 : decode Y_S_rank.2.1 49 = .ok (.getfield 27, 3) := by decide +kernel
theorem d_S_rank_52 : decode Y_S_rank.2.1 52 = .ok (.aload_n 0, 1) := by decide +kernel
theorem d_S_rank_53 : decode Y_S_rank.2.1 53 = .ok (.getfield 40, 3) := by decide +kernel
theorem d_S_rank_56 : decode Y_S_rank.2.1 56 = .ok (.invokevirtual 292, 3) := by decide +kernel
theorem d_S_rank_59 : decode Y_S_rank.2.1 59 = .ok (.iconst 0, 1) := by decide +kernel
theorem d_S_rank_60 : decode Y_S_rank.2.1 60 = .ok (.istore_n 3, 1) := by decide +kernel
theorem d_S_rank_61 : decode Y_S_rank.2.1 61 = .ok (.iconst 0, 1) := by decide +kernel
theorem d_S_rank_62 : decode Y_S_rank.2.1 62 = .ok (.istore 4, 2) := by decide +kernel
theorem d_S_rank_64 : decode Y_S_rank.2.1 64 = .ok (.iload 4, 2) := by decide +kernel
theorem d_S_rank_66 : decode Y_S_rank.2.1 66 = .ok (.iconst 3, 1) := by decide +kernel
theorem d_S_rank_67 : decode Y_S_rank.2.1 67 = .ok (.if_icmp .gt 34, 3) := by decide +kernel
theorem d_S_rank_70 : decode Y_S_rank.2.1 70 = .ok (.iload_n 3, 1) := by decide +kernel
theorem d_S_rank_71 : decode Y_S_rank.2.1 71 = .ok (.aload_n 0, 1) := by decide +kernel
theorem d_S_rank_72 : decode Y_S_rank.2.1 72 = .ok (.iload 4, 2) := by decide +kernel
theorem d_S_rank_74 : decode Y_S_rank.2.1 74 = .ok (.iconst 0, 1) := by decide +kernel
theorem d_S_rank_75 : decode Y_S_rank.2.1 75 = .ok (.invokevirtual 314, 3) := by decide +kernel
theorem d_S_rank_78 : decode Y_S_rank.2.1 78 = .ok (.invokestatic 185, 3) := by decide +kernel
theorem d_S_rank_81 : decode Y_S_rank.2.1 81 = .ok (.istore_n 3, 1) := by decide +kernel
theorem d_S_rank_82 : decode Y_S_rank.2.1 82 = .ok (.iload_n 2, 1) := by decide +kernel
theorem d_S_rank_83 : decode Y_S_rank.2.1 83 = .ok (.iload 4, 2) := by decide +kernel
theorem d_S_rank_85 : decode Y_S_rank.2.1 85 = .ok (.isub, 1) := by decide +kernel
theorem d_S_rank_86 : decode Y_S_rank.2.1 86 = .ok (.iload_n 3, 1) := by decide +kernel
theorem d_S_rank_87 : decode Y_S_rank.2.1 87 = .ok (.if_icmp .ge 8, 3) := by decide +kernel
theorem d_S_rank_90 : decode Y_S_rank.2.1 90 = .ok (.iload 4, 2) := by decide +kernel
theorem d_S_rank_92 : decode Y_S_rank.2.1 92 = .ok (.iconst 1, 1) := by decide +kernel
theorem d_S_rank_93 : decode Y_S_rank.2.1 93 = .ok (.isub, 1) := by decide +kernel
theorem d_S_rank_94 : decode Y_S_rank.2.1 94 = .ok (.ireturn, 1) := by decide +kernel
theorem d_S_rank_95 : decode Y_S_rank.2.1 95 = .ok (.iinc 4 1, 3) := by decide +kernel
theorem d_S_rank_98 : decode Y_S_rank.2.1 98 = .ok (.goto (-34), 3) := by decide +kernel
theorem d_S_rank_101 : decode Y_S_rank.2.1 101 = .ok (.iconst 3, 1) := by decide +kernel
theorem d_S_rank_102 : decode Y_S_rank.2.1 102 = .ok (.ireturn, 1) := by decide +kernel
theorem e_S_rank {l : Launch} {G : GT} {d : Nat} {P : Int → MM → Prop} {m : MM} (x1 : Int)  (hd1 : 1 ≤ d) (H : wfM m → inR x1 → (x1 < (-30) → (P (-2) m)) ∧ (¬ (x1 < (-30)) → ((x1 ≤ 30 → (∃ b11 : Nat, m 0 5 = b11 ∧ isB b11 ∧ (∃ (e15 : Nat) (P16 : Int → MM → Prop), e15 < d ∧ CI l G Y_Board_grainsOf e15 [.inr (.inr b11), .inr (.inr 25)] m P16 ∧ (∀ z21 m22, P16 z21 m22 → inR z21 → wfM m22 → ((inR (z21 + x1)) ∧ (((0 : Int) ≤ 0 ∧ (0 : Int) ≤ 0 ∧ (0 : Int) < 8 ∧ (0 : Int) + 8 ≤ (8 : Nat) ∧ (0 : Int) + 8 ≤ (8 : Nat)) ∧ (∀ m28, m28 = upC m22 25 27 0 0 8 → (∃ b33 : Nat, m28 0 5 = b33 ∧ isB b33 ∧ (∃ (e37 : Nat) (P38 : MM → Prop), e37 < d ∧ CV l G Y_Group_toOwn e37 [.inr (.inr 38), .inr (.inr b33), .inr (.inr 27)] m28 P38 ∧ (∀ m44, P38 m44 → wfM m44 → (Wq l G false Y_S_rank d (QI P) 64 [(0, .inr (.inr 0)), (2, .inl (z21 + x1)), (3, .inl 0), (4, .inl 0)] [] m44))))))))))) ∧ (¬ (x1 ≤ 30) → (P (-2) m))))) : CI l G Y_S_rank d [.inr (.inr 0), .inl x1] m P := by
  refine CI.of [(0, .inr (.inr 0)), (1, .inl x1)] k_S_rank.1 (Nat.le_of_ble_eq_true rfl) rfl (Wp.wf (fun hw _ hl hs => ?_))
  have H0 := H hw (hl _ (List.mem_of_getElem? (i := 1) rfl))
  refine Wp.iload_n 1 1 d_S_rank_0 rfl rfl ?_
  refine Wp.bipush d_S_rank_1 (by decide) (by decide) ?_
  obtain ⟨H2, H3⟩ := H0
  refine Wp.icmp_lt 12 d_S_rank_3 (by decide) (fun c1 => ?_) (fun c1 => ?_)
  · have H4 := H2 c1
    refine Wp.bipush d_S_rank_12 (by decide) (by decide) ?_
    exact Wq.iret d_S_rank_14 rfl H4
  · have H5 := H3 c1
    refine Wp.iload_n 1 1 d_S_rank_6 rfl rfl ?_
    refine Wp.bipush d_S_rank_7 (by decide) (by decide) ?_
    obtain ⟨H7, H8⟩ := H5
    refine Wp.icmp_le 15 d_S_rank_9 (by decide) (fun c6 => ?_) (fun c6 => ?_)
    · have H9 := H7 c6
      refine Wp.aload_n 0 0 d_S_rank_15 rfl rfl ?_
      obtain ⟨b11, hb12, hB13, H14⟩ := H9
      refine Wp.getR b11 d_S_rank_16 fl_S_27 rfl (Or.inl rfl) rfl hb12 ?_
      refine Wp.aload_n 0 0 d_S_rank_19 rfl rfl ?_
      refine Wp.getP 25 d_S_rank_20 fl_S_34 rfl rfl rfl ?_
      obtain ⟨e15, P16, hd17, ho18, H19⟩ := H14
      refine Wq.VI (st := []) [.inr (.inr 25)] d_S_rank_23 k_Board_grainsOf ml_S_311 rfl (isB_lay hB13) rfl (fun h => by cases h) (Nat.le_of_ble_eq_true rfl) hd17 ho18 (fun z21 m22 hp23 hz24 hw25 => ?_)
      have H20 := H19 z21 m22 hp23 hz24 hw25
      refine Wp.iload_n 1 1 d_S_rank_26 rfl rfl ?_
      obtain ⟨s26, H27⟩ := H20
      refine Wp.iadd d_S_rank_27 s26 ?_
      refine Wp.istore_n 2 [(0, .inr (.inr 0)), (1, .inl x1), (2, .inl (z21 + x1))] d_S_rank_28 rfl (by decide) rfl ?_
      refine Wp.aload_n 0 0 d_S_rank_29 rfl rfl ?_
      refine Wp.getP 25 d_S_rank_30 fl_S_34 rfl rfl rfl ?_
      refine Wp.iconst d_S_rank_33 (by decide) ?_
      refine Wp.aload_n 0 0 d_S_rank_34 rfl rfl ?_
      refine Wp.getP 27 d_S_rank_35 fl_S_40 rfl rfl rfl ?_
      refine Wp.iconst d_S_rank_38 (by decide) ?_
      refine Wp.bipush d_S_rank_39 (by decide) (by decide) ?_
      obtain ⟨s32, H31⟩ := H27
      refine Wq.acopy d_S_rank_41 ml_S_232 rfl rfl (by decide) (by decide) hd1 (fun h => by cases h) (Nat.le_of_ble_eq_true rfl) s32 (fun m28 hm29 => ?_)
      have H30 := H31 m28 hm29
      refine Wp.aload_n 0 0 d_S_rank_44 rfl rfl ?_
      refine Wp.getP 38 d_S_rank_45 fl_S_70 rfl rfl rfl ?_
      refine Wp.aload_n 0 0 d_S_rank_48 rfl rfl ?_
      obtain ⟨b33, hb34, hB35, H36⟩ := H30
      refine Wp.getR b33 d_S_rank_49 fl_S_27 rfl (Or.inl rfl) rfl hb34 ?_
      refine Wp.aload_n 0 0 d_S_rank_52 rfl rfl ?_
      refine Wp.getP 27 d_S_rank_53 fl_S_40 rfl rfl rfl ?_
      obtain ⟨e37, P38, hd39, ho40, H41⟩ := H36
      refine Wq.VV (st := []) [.inr (.inr b33), .inr (.inr 27)] d_S_rank_56 k_Group_toOwn ml_S_292 rfl rfl rfl (fun h => by cases h) (Nat.le_of_ble_eq_true rfl) hd39 ho40 (fun m44 hp45 hw47 => ?_)
      have H42 := H41 m44 hp45 hw47
      refine Wp.iconst d_S_rank_59 (by decide) ?_
      refine Wp.istore_n 3 [(0, .inr (.inr 0)), (1, .inl x1), (2, .inl (z21 + x1)), (3, .inl 0)] d_S_rank_60 rfl (by decide) rfl ?_
      refine Wp.iconst d_S_rank_61 (by decide) ?_
      refine Wp.istore 4 [(0, .inr (.inr 0)), (1, .inl x1), (2, .inl (z21 + x1)), (3, .inl 0), (4, .inl 0)] d_S_rank_62 (by decide) rfl ?_
      refine Wp.pick [0, 2, 3, 4] [(0, .inr (.inr 0)), (2, .inl (z21 + x1)), (3, .inl 0), (4, .inl 0)] rfl ?_
      exact H42
    · have H10 := H8 c6
      refine Wp.bipush d_S_rank_12 (by decide) (by decide) ?_
      exact Wq.iret d_S_rank_14 rfl H10
theorem s_S_rank_64 {l : Launch} {G : GT} {d : Nat} {P : Int → MM → Prop} {m : MM} (x2 : Int) (x3 : Int) (x4 : Int)  (hd1 : 1 ≤ d) (H : wfM m → inR x2 → inR x3 → inR x4 → (x4 > 3 → (P 3 m)) ∧ (¬ (x4 > 3) → (∃ (e6 : Nat) (P7 : Int → MM → Prop), e6 < d ∧ CI l G Y_S_mostNeeded e6 [.inr (.inr 0), .inl x4, .inl 0] m P7 ∧ (∀ z12 m13, P7 z12 m13 → inR z12 → wfM m13 → ((inR (x2 - x4)) ∧ (((x2 - x4) ≥ (max x3 z12) → ((inR (x4 + 1)) ∧ (Wq l G false Y_S_rank d (QI P) 64 [(0, .inr (.inr 0)), (2, .inl x2), (3, .inl (max x3 z12)), (4, .inl (x4 + 1))] [] m13))) ∧ (¬ ((x2 - x4) ≥ (max x3 z12)) → ((inR (x4 - 1)) ∧ (P (x4 - 1) m13))))))))) : Wq l G false Y_S_rank d (QI P) 64 [(0, .inr (.inr 0)), (2, .inl x2), (3, .inl x3), (4, .inl x4)] [] m := by
  refine Wp.wf (fun hw _ hl hs => ?_)
  have H0 := H hw (hl _ (List.mem_of_getElem? (i := 1) rfl)) (hl _ (List.mem_of_getElem? (i := 2) rfl)) (hl _ (List.mem_of_getElem? (i := 3) rfl))
  refine Wp.iload 3 4 d_S_rank_64 rfl ?_
  refine Wp.iconst d_S_rank_66 (by decide) ?_
  obtain ⟨H2, H3⟩ := H0
  refine Wp.icmp_gt 101 d_S_rank_67 (by decide) (fun c1 => ?_) (fun c1 => ?_)
  · have H4 := H2 c1
    refine Wp.iconst d_S_rank_101 (by decide) ?_
    exact Wq.iret d_S_rank_102 rfl H4
  · have H5 := H3 c1
    refine Wp.iload_n 2 3 d_S_rank_70 rfl rfl ?_
    refine Wp.aload_n 0 0 d_S_rank_71 rfl rfl ?_
    refine Wp.iload 3 4 d_S_rank_72 rfl ?_
    refine Wp.iconst d_S_rank_74 (by decide) ?_
    obtain ⟨e6, P7, hd8, ho9, H10⟩ := H5
    refine Wq.VI (st := [.inl x3]) [.inl x4, .inl 0] d_S_rank_75 k_S_mostNeeded ml_S_314 rfl rfl rfl (fun h => by cases h) (Nat.le_of_ble_eq_true rfl) hd8 ho9 (fun z12 m13 hp14 hz15 hw16 => ?_)
    have H11 := H10 z12 m13 hp14 hz15 hw16
    refine Wp.mmax d_S_rank_78 ml_S_185 k_mmax hd1 (Nat.le_of_ble_eq_true rfl) ?_
    refine Wp.istore_n 3 [(0, .inr (.inr 0)), (2, .inl x2), (3, .inl (max x3 z12)), (4, .inl x4)] d_S_rank_81 rfl (by decide) rfl ?_
    refine Wp.iload_n 1 2 d_S_rank_82 rfl rfl ?_
    refine Wp.iload 3 4 d_S_rank_83 rfl ?_
    obtain ⟨s17, H18⟩ := H11
    refine Wp.isub d_S_rank_85 s17 ?_
    refine Wp.iload_n 2 3 d_S_rank_86 rfl rfl ?_
    obtain ⟨H20, H21⟩ := H18
    refine Wp.icmp_ge 95 d_S_rank_87 (by decide) (fun c19 => ?_) (fun c19 => ?_)
    · have H22 := H20 c19
      obtain ⟨s24, H25⟩ := H22
      refine Wp.iinc 3 4 [(0, .inr (.inr 0)), (2, .inl x2), (3, .inl (max x3 z12)), (4, .inl (x4 + 1))] d_S_rank_95 rfl s24 (by decide) rfl ?_
      refine Wp.goto 64 d_S_rank_98 (by decide) ?_
      exact H25
    · have H23 := H21 c19
      refine Wp.iload 3 4 d_S_rank_90 rfl ?_
      refine Wp.iconst d_S_rank_92 (by decide) ?_
      obtain ⟨s26, H27⟩ := H23
      refine Wp.isub d_S_rank_93 s26 ?_
      exact Wq.iret d_S_rank_94 rfl H27
theorem d_S_mostNeeded_0 : decode Y_S_mostNeeded.2.1 0 = .ok (.iload_n 1, 1) := by decide +kernel
theorem d_S_mostNeeded_1 : decode Y_S_mostNeeded.2.1 1 = .ok (.ifCond .gt 45, 3) := by decide +kernel
theorem d_S_mostNeeded_4 : decode Y_S_mostNeeded.2.1 4 = .ok (.aload_n 0, 1) := by decide +kernel
theorem d_S_mostNeeded_5 : decode Y_S_mostNeeded.2.1 5 = .ok (.getfield 40, 3) := by decide +kernel
theorem d_S_mostNeeded_8 : decode Y_S_mostNeeded.2.1 8 = .ok (.iconst 0, 1) := by decide +kernel
theorem d_S_mostNeeded_9 : decode Y_S_mostNeeded.2.1 9 = .ok (.aload_n 0, 1) := by decide +kernel
theorem d_S_mostNeeded_10 : decode Y_S_mostNeeded.2.1 10 = .ok (.getfield 37, 3) := by decide +kernel
theorem d_S_mostNeeded_13 : decode Y_S_mostNeeded.2.1 13 = .ok (.iconst 0, 1) := by decide +kernel
theorem d_S_mostNeeded_14 : decode Y_S_mostNeeded.2.1 14 = .ok (.bipush 8, 2) := by decide +kernel
theorem d_S_mostNeeded_16 : decode Y_S_mostNeeded.2.1 16 = .ok (.invokestatic 232, 3) := by decide +kernel
theorem d_S_mostNeeded_19 : decode Y_S_mostNeeded.2.1 19 = .ok (.aload_n 0, 1) := by decide +kernel
theorem d_S_mostNeeded_20 : decode Y_S_mostNeeded.2.1 20 = .ok (.getfield 70, 3) := by decide +kernel
theorem d_S_mostNeeded_23 : decode Y_S_mostNeeded.2.1 23 = .ok (.aload_n 0, 1) := by decide +kernel
theorem d_S_mostNeeded_24 : decode Y_S_mostNeeded.2.1 24 = .ok (.getfield 27, 3) := by decide +kernel
theorem d_S_mostNeeded_27 : decode Y_S_mostNeeded.2.1 27 = .ok (.aload_n 0, 1) := by decide +kernel
theorem d_S_mostNeeded_28 : decode Y_S_mostNeeded.2.1 28 = .ok (.getfield 37, 3) := by decide +kernel
theorem d_S_mostNeeded_31 : decode Y_S_mostNeeded.2.1 31 = .ok (.invokevirtual 296, 3) := by decide +kernel
theorem d_S_mostNeeded_34 : decode Y_S_mostNeeded.2.1 34 = .ok (.aload_n 0, 1) := by decide +kernel
theorem d_S_mostNeeded_35 : decode Y_S_mostNeeded.2.1 35 = .ok (.getfield 27, 3) := by decide +kernel
theorem d_S_mostNeeded_38 : decode Y_S_mostNeeded.2.1 38 = .ok (.aload_n 0, 1) := by decide +kernel
theorem d_S_mostNeeded_39 : decode Y_S_mostNeeded.2.1 39 = .ok (.getfield 37, 3) := by decide +kernel
theorem d_S_mostNeeded_42 : decode Y_S_mostNeeded.2.1 42 = .ok (.invokevirtual 311, 3) := by decide +kernel
theorem d_S_mostNeeded_45 : decode Y_S_mostNeeded.2.1 45 = .ok (.ireturn, 1) := by decide +kernel
theorem d_S_mostNeeded_46 : decode Y_S_mostNeeded.2.1 46 = .ok (.iconst 0, 1) := by decide +kernel
theorem d_S_mostNeeded_47 : decode Y_S_mostNeeded.2.1 47 = .ok (.istore_n 3, 1) := by decide +kernel
theorem d_S_mostNeeded_48 : decode Y_S_mostNeeded.2.1 48 = .ok (.iload_n 2, 1) := by decide +kernel
theorem d_S_mostNeeded_49 : decode Y_S_mostNeeded.2.1 49 = .ok (.istore 4, 2) := by decide +kernel
theorem d_S_mostNeeded_51 : decode Y_S_mostNeeded.2.1 51 = .ok (.iload 4, 2) := by decide +kernel
theorem d_S_mostNeeded_53 : decode Y_S_mostNeeded.2.1 53 = .ok (.aload_n 0, 1) := by decide +kernel
theorem d_S_mostNeeded_54 : decode Y_S_mostNeeded.2.1 54 = .ok (.getfield 27, 3) := by decide +kernel
theorem d_S_mostNeeded_57 : decode Y_S_mostNeeded.2.1 57 = .ok (.getfield 119, 3) := by decide +kernel
theorem d_S_mostNeeded_60 : decode Y_S_mostNeeded.2.1 60 = .ok (.if_icmp .ge 21, 3) := by decide +kernel
theorem d_S_mostNeeded_63 : decode Y_S_mostNeeded.2.1 63 = .ok (.iload_n 3, 1) := by decide +kernel
theorem d_S_mostNeeded_64 : decode Y_S_mostNeeded.2.1 64 = .ok (.aload_n 0, 1) := by decide +kernel
theorem d_S_mostNeeded_65 : decode Y_S_mostNeeded.2.1 65 = .ok (.iload 4, 2) := by decide +kernel
theorem d_S_mostNeeded_67 : decode Y_S_mostNeeded.2.1 67 = .ok (.iload_n 1, 1) := by decide +kernel
theorem d_S_mostNeeded_68 : decode Y_S_mostNeeded.2.1 68 = .ok (.invokevirtual 317, 3) := by decide +kernel
theorem d_S_mostNeeded_71 : decode Y_S_mostNeeded.2.1 71 = .ok (.invokestatic 185, 3) := by decide +kernel
theorem d_S_mostNeeded_74 : decode Y_S_mostNeeded.2.1 74 = .ok (.istore_n 3, 1) := by decide +kernel
theorem d_S_mostNeeded_75 : decode Y_S_mostNeeded.2.1 75 = .ok (.iinc 4 1, 3) := by decide +kernel
theorem d_S_mostNeeded_78 : decode Y_S_mostNeeded.2.1 78 = .ok (.goto (-27), 3) := by decide +kernel
theorem d_S_mostNeeded_81 : decode Y_S_mostNeeded.2.1 81 = .ok (.iload_n 3, 1) := by decide +kernel
theorem d_S_mostNeeded_82 : decode Y_S_mostNeeded.2.1 82 = .ok (.ireturn, 1) := by decide +kernel
theorem e_S_mostNeeded {l : Launch} {G : GT} {d : Nat} {P : Int → MM → Prop} {m : MM} (x1 : Int) (x2 : Int)  (hd1 : 1 ≤ d) (H : wfM m → inR x1 → inR x2 → (x1 > 0 → (Wq l G false Y_S_mostNeeded d (QI P) 51 [(0, .inr (.inr 0)), (1, .inl x1), (3, .inl 0), (4, .inl x2)] [] m)) ∧ (¬ (x1 > 0) → (((0 : Int) ≤ 0 ∧ (0 : Int) ≤ 0 ∧ (0 : Int) < 8 ∧ (0 : Int) + 8 ≤ (8 : Nat) ∧ (0 : Int) + 8 ≤ (8 : Nat)) ∧ (∀ m6, m6 = upC m 27 26 0 0 8 → (∃ b11 : Nat, m6 0 5 = b11 ∧ isB b11 ∧ (∃ (e15 : Nat) (P16 : MM → Prop), e15 < d ∧ CV l G Y_Group_toBare e15 [.inr (.inr 38), .inr (.inr b11), .inr (.inr 26)] m6 P16 ∧ (∀ m22, P16 m22 → wfM m22 → (∃ b26 : Nat, m22 0 5 = b26 ∧ isB b26 ∧ (∃ (e30 : Nat) (P31 : Int → MM → Prop), e30 < d ∧ CI l G Y_Board_grainsOf e30 [.inr (.inr b26), .inr (.inr 26)] m22 P31 ∧ (∀ z36 m37, P31 z36 m37 → inR z36 → wfM m37 → (P z36 m37))))))))))) : CI l G Y_S_mostNeeded d [.inr (.inr 0), .inl x1, .inl x2] m P := by
  refine CI.of [(0, .inr (.inr 0)), (1, .inl x1), (2, .inl x2)] k_S_mostNeeded.1 (Nat.le_of_ble_eq_true rfl) rfl (Wp.wf (fun hw _ hl hs => ?_))
  have H0 := H hw (hl _ (List.mem_of_getElem? (i := 1) rfl)) (hl _ (List.mem_of_getElem? (i := 2) rfl))
  refine Wp.iload_n 1 1 d_S_mostNeeded_0 rfl rfl ?_
  obtain ⟨H2, H3⟩ := H0
  refine Wp.if_gt 46 d_S_mostNeeded_1 (by decide) (fun c1 => ?_) (fun c1 => ?_)
  · have H4 := H2 c1
    refine Wp.iconst d_S_mostNeeded_46 (by decide) ?_
    refine Wp.istore_n 3 [(0, .inr (.inr 0)), (1, .inl x1), (2, .inl x2), (3, .inl 0)] d_S_mostNeeded_47 rfl (by decide) rfl ?_
    refine Wp.iload_n 2 2 d_S_mostNeeded_48 rfl rfl ?_
    refine Wp.istore 4 [(0, .inr (.inr 0)), (1, .inl x1), (2, .inl x2), (3, .inl 0), (4, .inl x2)] d_S_mostNeeded_49 (by decide) rfl ?_
    refine Wp.pick [0, 1, 3, 4] [(0, .inr (.inr 0)), (1, .inl x1), (3, .inl 0), (4, .inl x2)] rfl ?_
    exact H4
  · have H5 := H3 c1
    refine Wp.aload_n 0 0 d_S_mostNeeded_4 rfl rfl ?_
    refine Wp.getP 27 d_S_mostNeeded_5 fl_S_40 rfl rfl rfl ?_
    refine Wp.iconst d_S_mostNeeded_8 (by decide) ?_
    refine Wp.aload_n 0 0 d_S_mostNeeded_9 rfl rfl ?_
    refine Wp.getP 26 d_S_mostNeeded_10 fl_S_37 rfl rfl rfl ?_
    refine Wp.iconst d_S_mostNeeded_13 (by decide) ?_
    refine Wp.bipush d_S_mostNeeded_14 (by decide) (by decide) ?_
    obtain ⟨s10, H9⟩ := H5
    refine Wq.acopy d_S_mostNeeded_16 ml_S_232 rfl rfl (by decide) (by decide) hd1 (fun h => by cases h) (Nat.le_of_ble_eq_true rfl) s10 (fun m6 hm7 => ?_)
    have H8 := H9 m6 hm7
    refine Wp.aload_n 0 0 d_S_mostNeeded_19 rfl rfl ?_
    refine Wp.getP 38 d_S_mostNeeded_20 fl_S_70 rfl rfl rfl ?_
    refine Wp.aload_n 0 0 d_S_mostNeeded_23 rfl rfl ?_
    obtain ⟨b11, hb12, hB13, H14⟩ := H8
    refine Wp.getR b11 d_S_mostNeeded_24 fl_S_27 rfl (Or.inl rfl) rfl hb12 ?_
    refine Wp.aload_n 0 0 d_S_mostNeeded_27 rfl rfl ?_
    refine Wp.getP 26 d_S_mostNeeded_28 fl_S_37 rfl rfl rfl ?_
    obtain ⟨e15, P16, hd17, ho18, H19⟩ := H14
    refine Wq.VV (st := []) [.inr (.inr b11), .inr (.inr 26)] d_S_mostNeeded_31 k_Group_toBare ml_S_296 rfl rfl rfl (fun h => by cases h) (Nat.le_of_ble_eq_true rfl) hd17 ho18 (fun m22 hp23 hw25 => ?_)
    have H20 := H19 m22 hp23 hw25
    refine Wp.aload_n 0 0 d_S_mostNeeded_34 rfl rfl ?_
    obtain ⟨b26, hb27, hB28, H29⟩ := H20
    refine Wp.getR b26 d_S_mostNeeded_35 fl_S_27 rfl (Or.inl rfl) rfl hb27 ?_
    refine Wp.aload_n 0 0 d_S_mostNeeded_38 rfl rfl ?_
    refine Wp.getP 26 d_S_mostNeeded_39 fl_S_37 rfl rfl rfl ?_
    obtain ⟨e30, P31, hd32, ho33, H34⟩ := H29
    refine Wq.VI (st := []) [.inr (.inr 26)] d_S_mostNeeded_42 k_Board_grainsOf ml_S_311 rfl (isB_lay hB28) rfl (fun h => by cases h) (Nat.le_of_ble_eq_true rfl) hd32 ho33 (fun z36 m37 hp38 hz39 hw40 => ?_)
    have H35 := H34 z36 m37 hp38 hz39 hw40
    exact Wq.iret d_S_mostNeeded_45 rfl H35
theorem s_S_mostNeeded_51 {l : Launch} {G : GT} {d : Nat} {P : Int → MM → Prop} {m : MM} (x1 : Int) (x3 : Int) (x4 : Int)  (hd1 : 1 ≤ d) (H : wfM m → inR x1 → inR x3 → inR x4 → ∃ b1 : Nat, m 0 5 = b1 ∧ isB b1 ∧ ((x4 ≥ (m b1 0) → (P x3 m)) ∧ (¬ (x4 ≥ (m b1 0)) → (∃ (e10 : Nat) (P11 : Int → MM → Prop), e10 < d ∧ CI l G Y_S_mostNeededWithout e10 [.inr (.inr 0), .inl x4, .inl x1] m P11 ∧ (∀ z16 m17, P11 z16 m17 → inR z16 → wfM m17 → ((inR (x4 + 1)) ∧ (Wq l G false Y_S_mostNeeded d (QI P) 51 [(0, .inr (.inr 0)), (1, .inl x1), (3, .inl (max x3 z16)), (4, .inl (x4 + 1))] [] m17))))))) : Wq l G false Y_S_mostNeeded d (QI P) 51 [(0, .inr (.inr 0)), (1, .inl x1), (3, .inl x3), (4, .inl x4)] [] m := by
  refine Wp.wf (fun hw _ hl hs => ?_)
  have H0 := H hw (hl _ (List.mem_of_getElem? (i := 1) rfl)) (hl _ (List.mem_of_getElem? (i := 2) rfl)) (hl _ (List.mem_of_getElem? (i := 3) rfl))
  refine Wp.iload 3 4 d_S_mostNeeded_51 rfl ?_
  refine Wp.aload_n 0 0 d_S_mostNeeded_53 rfl rfl ?_
  obtain ⟨b1, hb2, hB3, H4⟩ := H0
  refine Wp.getR b1 d_S_mostNeeded_54 fl_S_27 rfl (Or.inl rfl) rfl hb2 ?_
  refine Wq.getI 0 rfl d_S_mostNeeded_57 fl_S_119 (isB_lay hB3) (Or.inl rfl) ?_
  obtain ⟨H6, H7⟩ := H4
  refine Wp.icmp_ge 81 d_S_mostNeeded_60 (by decide) (fun c5 => ?_) (fun c5 => ?_)
  · have H8 := H6 c5
    refine Wp.iload_n 2 3 d_S_mostNeeded_81 rfl rfl ?_
    exact Wq.iret d_S_mostNeeded_82 rfl H8
  · have H9 := H7 c5
    refine Wp.iload_n 2 3 d_S_mostNeeded_63 rfl rfl ?_
    refine Wp.aload_n 0 0 d_S_mostNeeded_64 rfl rfl ?_
    refine Wp.iload 3 4 d_S_mostNeeded_65 rfl ?_
    refine Wp.iload_n 1 1 d_S_mostNeeded_67 rfl rfl ?_
    obtain ⟨e10, P11, hd12, ho13, H14⟩ := H9
    refine Wq.VI (st := [.inl x3]) [.inl x4, .inl x1] d_S_mostNeeded_68 k_S_mostNeededWithout ml_S_317 rfl rfl rfl (fun h => by cases h) (Nat.le_of_ble_eq_true rfl) hd12 ho13 (fun z16 m17 hp18 hz19 hw20 => ?_)
    have H15 := H14 z16 m17 hp18 hz19 hw20
    refine Wp.mmax d_S_mostNeeded_71 ml_S_185 k_mmax hd1 (Nat.le_of_ble_eq_true rfl) ?_
    refine Wp.istore_n 3 [(0, .inr (.inr 0)), (1, .inl x1), (3, .inl (max x3 z16)), (4, .inl x4)] d_S_mostNeeded_74 rfl (by decide) rfl ?_
    obtain ⟨s21, H22⟩ := H15
    refine Wp.iinc 3 4 [(0, .inr (.inr 0)), (1, .inl x1), (3, .inl (max x3 z16)), (4, .inl (x4 + 1))] d_S_mostNeeded_75 rfl s21 (by decide) rfl ?_
    refine Wp.goto 51 d_S_mostNeeded_78 (by decide) ?_
    exact H22
theorem d_S_mostNeededWithout_0 : decode Y_S_mostNeededWithout.2.1 0 = .ok (.aload_n 0, 1) := by decide +kernel
theorem d_S_mostNeededWithout_1 : decode Y_S_mostNeededWithout.2.1 1 = .ok (.getfield 40, 3) := by decide +kernel
theorem d_S_mostNeededWithout_4 : decode Y_S_mostNeededWithout.2.1 4 = .ok (.iload_n 1, 1) := by decide +kernel
theorem d_S_mostNeededWithout_5 : decode Y_S_mostNeededWithout.2.1 5 = .ok (.dup2, 1) := by decide +kernel
theorem d_S_mostNeededWithout_6 : decode Y_S_mostNeededWithout.2.1 6 = .ok (.iaload, 1) := by decide +kernel
theorem d_S_mostNeededWithout_7 : decode Y_S_mostNeededWithout.2.1 7 = .ok (.iconst 1, 1) := by decide +kernel
theorem d_S_mostNeededWithout_8 : decode Y_S_mostNeededWithout.2.1 8 = .ok (.isub, 1) := by decide +kernel
theorem d_S_mostNeededWithout_9 : decode Y_S_mostNeededWithout.2.1 9 = .ok (.iastore, 1) := by decide +kernel
theorem d_S_mostNeededWithout_10 : decode Y_S_mostNeededWithout.2.1 10 = .ok (.aload_n 0, 1) := by decide +kernel
theorem d_S_mostNeededWithout_11 : decode Y_S_mostNeededWithout.2.1 11 = .ok (.iload_n 2, 1) := by decide +kernel
theorem d_S_mostNeededWithout_12 : decode Y_S_mostNeededWithout.2.1 12 = .ok (.iconst 1, 1) := by decide +kernel
theorem d_S_mostNeededWithout_13 : decode Y_S_mostNeededWithout.2.1 13 = .ok (.isub, 1) := by decide +kernel
theorem d_S_mostNeededWithout_14 : decode Y_S_mostNeededWithout.2.1 14 = .ok (.iload_n 1, 1) := by decide +kernel
theorem d_S_mostNeededWithout_15 : decode Y_S_mostNeededWithout.2.1 15 = .ok (.invokevirtual 314, 3) := by decide +kernel
theorem d_S_mostNeededWithout_18 : decode Y_S_mostNeededWithout.2.1 18 = .ok (.istore_n 3, 1) := by decide +kernel
theorem d_S_mostNeededWithout_19 : decode Y_S_mostNeededWithout.2.1 19 = .ok (.aload_n 0, 1) := by decide +kernel
theorem d_S_mostNeededWithout_20 : decode Y_S_mostNeededWithout.2.1 20 = .ok (.getfield 40, 3) := by decide +kernel
theorem d_S_mostNeededWithout_23 : decode Y_S_mostNeededWithout.2.1 23 = .ok (.iload_n 1, 1) := by decide +kernel
theorem d_S_mostNeededWithout_24 : decode Y_S_mostNeededWithout.2.1 24 = .ok (.dup2, 1) := by decide +kernel
theorem d_S_mostNeededWithout_25 : decode Y_S_mostNeededWithout.2.1 25 = .ok (.iaload, 1) := by decide +kernel
theorem d_S_mostNeededWithout_26 : decode Y_S_mostNeededWithout.2.1 26 = .ok (.iconst 1, 1) := by decide +kernel
theorem d_S_mostNeededWithout_27 : decode Y_S_mostNeededWithout.2.1 27 = .ok (.iadd, 1) := by decide +kernel
theorem d_S_mostNeededWithout_28 : decode Y_S_mostNeededWithout.2.1 28 = .ok (.iastore, 1) := by decide +kernel
theorem d_S_mostNeededWithout_29 : decode Y_S_mostNeededWithout.2.1 29 = .ok (.iload_n 3, 1) := by decide +kernel
theorem d_S_mostNeededWithout_30 : decode Y_S_mostNeededWithout.2.1 30 = .ok (.ireturn, 1) := by decide +kernel
theorem e_S_mostNeededWithout {l : Launch} {G : GT} {d : Nat} {P : Int → MM → Prop} {m : MM} (x1 : Int) (x2 : Int)  (H : wfM m → inR x1 → inR x2 → (0 ≤ x1 ∧ x1 < (8 : Int)) ∧ ((inR ((m 27 x1) - 1)) ∧ ((0 ≤ x1 ∧ x1 < (8 : Int)) ∧ (∀ m5, m5 = up m 27 x1 ((m 27 x1) - 1) → ((inR (x2 - 1)) ∧ (∃ (e12 : Nat) (P13 : Int → MM → Prop), e12 < d ∧ CI l G Y_S_mostNeeded e12 [.inr (.inr 0), .inl (x2 - 1), .inl x1] m5 P13 ∧ (∀ z18 m19, P13 z18 m19 → inR z18 → wfM m19 → ((0 ≤ x1 ∧ x1 < (8 : Int)) ∧ ((inR ((m19 27 x1) + 1)) ∧ ((0 ≤ x1 ∧ x1 < (8 : Int)) ∧ (∀ m27, m27 = up m19 27 x1 ((m19 27 x1) + 1) → (P z18 m27)))))))))))) : CI l G Y_S_mostNeededWithout d [.inr (.inr 0), .inl x1, .inl x2] m P := by
  refine CI.of [(0, .inr (.inr 0)), (1, .inl x1), (2, .inl x2)] k_S_mostNeededWithout.1 (Nat.le_of_ble_eq_true rfl) rfl (Wp.wf (fun hw _ hl hs => ?_))
  have H0 := H hw (hl _ (List.mem_of_getElem? (i := 1) rfl)) (hl _ (List.mem_of_getElem? (i := 2) rfl))
  refine Wp.aload_n 0 0 d_S_mostNeededWithout_0 rfl rfl ?_
  refine Wp.getP 27 d_S_mostNeededWithout_1 fl_S_40 rfl rfl rfl ?_
  refine Wp.iload_n 1 1 d_S_mostNeededWithout_4 rfl rfl ?_
  refine Wp.dup2 d_S_mostNeededWithout_5 rfl rfl ?_
  obtain ⟨s1, H2⟩ := H0
  refine Wp.iald d_S_mostNeededWithout_6 rfl (Or.inl rfl) s1.1 s1.2 ?_
  refine Wp.iconst d_S_mostNeededWithout_7 (by decide) ?_
  obtain ⟨s3, H4⟩ := H2
  refine Wp.isub d_S_mostNeededWithout_8 s3 ?_
  obtain ⟨s34, H35⟩ := H4
  refine Wq.iast d_S_mostNeededWithout_9 rfl s34.1 s34.2 (fun m5 hm6 => ?_)
  have H7 := H35 m5 hm6
  refine Wp.aload_n 0 0 d_S_mostNeededWithout_10 rfl rfl ?_
  refine Wp.iload_n 2 2 d_S_mostNeededWithout_11 rfl rfl ?_
  refine Wp.iconst d_S_mostNeededWithout_12 (by decide) ?_
  obtain ⟨s10, H11⟩ := H7
  refine Wp.isub d_S_mostNeededWithout_13 s10 ?_
  refine Wp.iload_n 1 1 d_S_mostNeededWithout_14 rfl rfl ?_
  obtain ⟨e12, P13, hd14, ho15, H16⟩ := H11
  refine Wq.VI (st := []) [.inl (x2 - 1), .inl x1] d_S_mostNeededWithout_15 k_S_mostNeeded ml_S_314 rfl rfl rfl (fun h => by cases h) (Nat.le_of_ble_eq_true rfl) hd14 ho15 (fun z18 m19 hp20 hz21 hw22 => ?_)
  have H17 := H16 z18 m19 hp20 hz21 hw22
  refine Wp.istore_n 3 [(0, .inr (.inr 0)), (1, .inl x1), (2, .inl x2), (3, .inl z18)] d_S_mostNeededWithout_18 rfl (by decide) rfl ?_
  refine Wp.aload_n 0 0 d_S_mostNeededWithout_19 rfl rfl ?_
  refine Wp.getP 27 d_S_mostNeededWithout_20 fl_S_40 rfl rfl rfl ?_
  refine Wp.iload_n 1 1 d_S_mostNeededWithout_23 rfl rfl ?_
  refine Wp.dup2 d_S_mostNeededWithout_24 rfl rfl ?_
  obtain ⟨s23, H24⟩ := H17
  refine Wp.iald d_S_mostNeededWithout_25 rfl (Or.inl rfl) s23.1 s23.2 ?_
  refine Wp.iconst d_S_mostNeededWithout_26 (by decide) ?_
  obtain ⟨s25, H26⟩ := H24
  refine Wp.iadd d_S_mostNeededWithout_27 s25 ?_
  obtain ⟨s32, H33⟩ := H26
  refine Wq.iast d_S_mostNeededWithout_28 rfl s32.1 s32.2 (fun m27 hm28 => ?_)
  have H29 := H33 m27 hm28
  refine Wp.iload_n 3 3 d_S_mostNeededWithout_29 rfl rfl ?_
  exact Wq.iret d_S_mostNeededWithout_30 rfl H29
theorem d_S_mean_0 : decode Y_S_mean.2.1 0 = .ok (.aload_n 0, 1) := by decide +kernel
theorem d_S_mean_1 : decode Y_S_mean.2.1 1 = .ok (.getfield 27, 3) := by decide +kernel
theorem d_S_mean_4 : decode Y_S_mean.2.1 4 = .ok (.iload_n 1, 1) := by decide +kernel
theorem d_S_mean_5 : decode Y_S_mean.2.1 5 = .ok (.invokevirtual 142, 3) := by decide +kernel
theorem d_S_mean_8 : decode Y_S_mean.2.1 8 = .ok (.ifCond .eq 23, 3) := by decide +kernel
theorem d_S_mean_11 : decode Y_S_mean.2.1 11 = .ok (.aload_n 0, 1) := by decide +kernel
theorem d_S_mean_12 : decode Y_S_mean.2.1 12 = .ok (.getfield 27, 3) := by decide +kernel
theorem d_S_mean_15 : decode Y_S_mean.2.1 15 = .ok (.iload_n 2, 1) := by decide +kernel
theorem d_S_mean_16 : decode Y_S_mean.2.1 16 = .ok (.invokevirtual 142, 3) := by decide +kernel
theorem d_S_mean_19 : decode Y_S_mean.2.1 19 = .ok (.ifCond .eq 12, 3) := by decide +kernel
theorem d_S_mean_22 : decode Y_S_mean.2.1 22 = .ok (.iload_n 3, 1) := by decide +kernel
theorem d_S_mean_23 : decode Y_S_mean.2.1 23 = .ok (.ifCond .lt 8, 3) := by decide +kernel
theorem d_S_mean_26 : decode Y_S_mean.2.1 26 = .ok (.iload_n 3, 1) := by decide +kernel
theorem d_S_mean_27 : decode Y_S_mean.2.1 27 = .ok (.iconst 1, 1) := by decide +kernel
theorem d_S_mean_28 : decode Y_S_mean.2.1 28 = .ok (.if_icmp .le 5, 3) := by decide +kernel
theorem d_S_mean_31 : decode Y_S_mean.2.1 31 = .ok (.iconst (-1), 1) := by decide +kernel
theorem d_S_mean_32 : decode Y_S_mean.2.1 32 = .ok (.ireturn, 1) := by decide +kernel
theorem d_S_mean_33 : decode Y_S_mean.2.1 33 = .ok (.aload_n 0, 1) := by decide +kernel
theorem d_S_mean_34 : decode Y_S_mean.2.1 34 = .ok (.getfield 70, 3) := by decide +kernel
theorem d_S_mean_37 : decode Y_S_mean.2.1 37 = .ok (.iload_n 1, 1) := by decide +kernel
theorem d_S_mean_38 : decode Y_S_mean.2.1 38 = .ok (.iload_n 2, 1) := by decide +kernel
theorem d_S_mean_39 : decode Y_S_mean.2.1 39 = .ok (.invokevirtual 320, 3) := by decide +kernel
theorem d_S_mean_42 : decode Y_S_mean.2.1 42 = .ok (.aload_n 0, 1) := by decide +kernel
theorem d_S_mean_43 : decode Y_S_mean.2.1 43 = .ok (.getfield 70, 3) := by decide +kernel
theorem d_S_mean_46 : decode Y_S_mean.2.1 46 = .ok (.getfield 269, 3) := by decide +kernel
theorem d_S_mean_49 : decode Y_S_mean.2.1 49 = .ok (.iload_n 3, 1) := by decide +kernel
theorem d_S_mean_50 : decode Y_S_mean.2.1 50 = .ok (.invokestatic 324, 3) := by decide +kernel
theorem d_S_mean_53 : decode Y_S_mean.2.1 53 = .ok (.ireturn, 1) := by decide +kernel
theorem e_S_mean {l : Launch} {G : GT} {d : Nat} {P : Int → MM → Prop} {m : MM} (x1 : Int) (x2 : Int) (x3 : Int)  (H : wfM m → inR x1 → inR x2 → inR x3 → ∃ b1 : Nat, m 0 5 = b1 ∧ isB b1 ∧ (∃ (e5 : Nat) (P6 : Int → MM → Prop), e5 < d ∧ CI l G Y_Board_has e5 [.inr (.inr b1), .inl x1] m P6 ∧ (∀ z11 m12, P6 z11 m12 → inR z11 → wfM m12 → ((z11 = 0 → (P (-1) m12)) ∧ (¬ (z11 = 0) → (∃ b21 : Nat, m12 0 5 = b21 ∧ isB b21 ∧ (∃ (e25 : Nat) (P26 : Int → MM → Prop), e25 < d ∧ CI l G Y_Board_has e25 [.inr (.inr b21), .inl x2] m12 P26 ∧ (∀ z31 m32, P26 z31 m32 → inR z31 → wfM m32 → ((z31 = 0 → (P (-1) m32)) ∧ (¬ (z31 = 0) → ((x3 < 0 → (P (-1) m32)) ∧ (¬ (x3 < 0) → ((x3 ≤ 1 → (∃ (e51 : Nat) (P52 : Int → MM → Prop), e51 < d ∧ CJ l G Y_Group_cofactor e51 [.inr (.inr 38), .inl x1, .inl x2] m32 P52 ∧ (∀ z57 m58, P52 z57 m58 → inL z57 → wfM m58 → (∃ (e62 : Nat) (P63 : Int → MM → Prop), e62 < d ∧ CI l G Y_S_part e62 [.inr (.inl z57), .inr (.inl (m58 38 6)), .inl x3] m58 P63 ∧ (∀ z68 m69, P63 z68 m69 → inR z68 → wfM m69 → (P z68 m69)))))) ∧ (¬ (x3 ≤ 1) → (P (-1) m32))))))))))))))) : CI l G Y_S_mean d [.inr (.inr 0), .inl x1, .inl x2, .inl x3] m P := by
  refine CI.of [(0, .inr (.inr 0)), (1, .inl x1), (2, .inl x2), (3, .inl x3)] k_S_mean.1 (Nat.le_of_ble_eq_true rfl) rfl (Wp.wf (fun hw _ hl hs => ?_))
  have H0 := H hw (hl _ (List.mem_of_getElem? (i := 1) rfl)) (hl _ (List.mem_of_getElem? (i := 2) rfl)) (hl _ (List.mem_of_getElem? (i := 3) rfl))
  refine Wp.aload_n 0 0 d_S_mean_0 rfl rfl ?_
  obtain ⟨b1, hb2, hB3, H4⟩ := H0
  refine Wp.getR b1 d_S_mean_1 fl_S_27 rfl (Or.inl rfl) rfl hb2 ?_
  refine Wp.iload_n 1 1 d_S_mean_4 rfl rfl ?_
  obtain ⟨e5, P6, hd7, ho8, H9⟩ := H4
  refine Wq.VI (st := []) [.inl x1] d_S_mean_5 k_Board_has ml_S_142 rfl (isB_lay hB3) rfl (fun h => by cases h) (Nat.le_of_ble_eq_true rfl) hd7 ho8 (fun z11 m12 hp13 hz14 hw15 => ?_)
  have H10 := H9 z11 m12 hp13 hz14 hw15
  obtain ⟨H17, H18⟩ := H10
  refine Wp.if_eq 31 d_S_mean_8 (by decide) (fun c16 => ?_) (fun c16 => ?_)
  · have H19 := H17 c16
    refine Wp.iconst d_S_mean_31 (by decide) ?_
    exact Wq.iret d_S_mean_32 rfl H19
  · have H20 := H18 c16
    refine Wp.aload_n 0 0 d_S_mean_11 rfl rfl ?_
    obtain ⟨b21, hb22, hB23, H24⟩ := H20
    refine Wp.getR b21 d_S_mean_12 fl_S_27 rfl (Or.inl rfl) rfl hb22 ?_
    refine Wp.iload_n 2 2 d_S_mean_15 rfl rfl ?_
    obtain ⟨e25, P26, hd27, ho28, H29⟩ := H24
    refine Wq.VI (st := []) [.inl x2] d_S_mean_16 k_Board_has ml_S_142 rfl (isB_lay hB23) rfl (fun h => by cases h) (Nat.le_of_ble_eq_true rfl) hd27 ho28 (fun z31 m32 hp33 hz34 hw35 => ?_)
    have H30 := H29 z31 m32 hp33 hz34 hw35
    obtain ⟨H37, H38⟩ := H30
    refine Wp.if_eq 31 d_S_mean_19 (by decide) (fun c36 => ?_) (fun c36 => ?_)
    · have H39 := H37 c36
      refine Wp.iconst d_S_mean_31 (by decide) ?_
      exact Wq.iret d_S_mean_32 rfl H39
    · have H40 := H38 c36
      refine Wp.iload_n 3 3 d_S_mean_22 rfl rfl ?_
      obtain ⟨H42, H43⟩ := H40
      refine Wp.if_lt 31 d_S_mean_23 (by decide) (fun c41 => ?_) (fun c41 => ?_)
      · have H44 := H42 c41
        refine Wp.iconst d_S_mean_31 (by decide) ?_
        exact Wq.iret d_S_mean_32 rfl H44
      · have H45 := H43 c41
        refine Wp.iload_n 3 3 d_S_mean_26 rfl rfl ?_
        refine Wp.iconst d_S_mean_27 (by decide) ?_
        obtain ⟨H47, H48⟩ := H45
        refine Wp.icmp_le 33 d_S_mean_28 (by decide) (fun c46 => ?_) (fun c46 => ?_)
        · have H49 := H47 c46
          refine Wp.aload_n 0 0 d_S_mean_33 rfl rfl ?_
          refine Wp.getP 38 d_S_mean_34 fl_S_70 rfl rfl rfl ?_
          refine Wp.iload_n 1 1 d_S_mean_37 rfl rfl ?_
          refine Wp.iload_n 2 2 d_S_mean_38 rfl rfl ?_
          obtain ⟨e51, P52, hd53, ho54, H55⟩ := H49
          refine Wq.VJ (st := []) [.inl x1, .inl x2] d_S_mean_39 k_Group_cofactor ml_S_320 rfl rfl rfl (fun h => by cases h) (Nat.le_of_ble_eq_true rfl) hd53 ho54 (fun z57 m58 hp59 hz60 hw61 => ?_)
          have H56 := H55 z57 m58 hp59 hz60 hw61
          refine Wp.aload_n 0 0 d_S_mean_42 rfl rfl ?_
          refine Wp.getP 38 d_S_mean_43 fl_S_70 rfl rfl rfl ?_
          refine Wq.getL 6 rfl d_S_mean_46 fl_S_269 rfl rfl ?_
          refine Wp.iload_n 3 3 d_S_mean_49 rfl rfl ?_
          obtain ⟨e62, P63, hd64, ho65, H66⟩ := H56
          refine Wq.SI (st := []) [.inr (.inl z57), .inr (.inl (m58 38 6)), .inl x3] d_S_mean_50 k_S_part ml_S_324 rfl  (fun h => by cases h) (Nat.le_of_ble_eq_true rfl) hd64 ho65 (fun z68 m69 hp70 hz71 hw72 => ?_)
          have H67 := H66 z68 m69 hp70 hz71 hw72
          exact Wq.iret d_S_mean_53 rfl H67
        · have H50 := H48 c46
          refine Wp.iconst d_S_mean_31 (by decide) ?_
          exact Wq.iret d_S_mean_32 rfl H50
theorem d_S_part_0 : decode Y_S_part.2.1 0 = .ok (.lload_n 0, 1) := by decide +kernel
theorem d_S_part_1 : decode Y_S_part.2.1 1 = .ok (.lload_n 2, 1) := by decide +kernel
theorem d_S_part_2 : decode Y_S_part.2.1 2 = .ok (.invokestatic 328, 3) := by decide +kernel
theorem d_S_part_5 : decode Y_S_part.2.1 5 = .ok (.lstore 5, 2) := by decide +kernel
theorem d_S_part_7 : decode Y_S_part.2.1 7 = .ok (.lload 5, 2) := by decide +kernel
theorem d_S_part_9 : decode Y_S_part.2.1 9 = .ok (.lconst 0, 1) := by decide +kernel
theorem d_S_part_10 : decode Y_S_part.2.1 10 = .ok (.lcmp, 1) := by decide +kernel
theorem d_S_part_11 : decode Y_S_part.2.1 11 = .ok (.ifCond .gt 5, 3) := by decide +kernel
theorem d_S_part_14 : decode Y_S_part.2.1 14 = .ok (.iconst (-1), 1) := by decide +kernel
theorem d_S_part_15 : decode Y_S_part.2.1 15 = .ok (.ireturn, 1) := by decide +kernel
theorem d_S_part_16 : decode Y_S_part.2.1 16 = .ok (.iload 4, 2) := by decide +kernel
theorem d_S_part_18 : decode Y_S_part.2.1 18 = .ok (.ifCond .ne 7, 3) := by decide +kernel
theorem d_S_part_21 : decode Y_S_part.2.1 21 = .ok (.lload_n 0, 1) := by decide +kernel
theorem d_S_part_22 : decode Y_S_part.2.1 22 = .ok (.goto 4, 3) := by decide +kernel
theorem d_S_part_25 : decode Y_S_part.2.1 25 = .ok (.lload_n 2, 1) := by decide +kernel
theorem d_S_part_26 : decode Y_S_part.2.1 26 = .ok (.lload 5, 2) := by decide +kernel
theorem d_S_part_28 : decode Y_S_part.2.1 28 = .ok (.ldiv, 1) := by decide +kernel
theorem d_S_part_29 : decode Y_S_part.2.1 29 = .ok (.l2i, 1) := by decide +kernel
theorem d_S_part_30 : decode Y_S_part.2.1 30 = .ok (.ireturn, 1) := by decide +kernel
theorem e_S_part {l : Launch} {G : GT} {d : Nat} {P : Int → MM → Prop} {m : MM} (x0 : Int) (x2 : Int) (x4 : Int)  (H : wfM m → inL x0 → inL x2 → inR x4 → ∃ (e1 : Nat) (P2 : Int → MM → Prop), e1 < d ∧ CJ l G Y_S_commonDivisor e1 [.inr (.inl x0), .inr (.inl x2)] m P2 ∧ (∀ z7 m8, P2 z7 m8 → inL z7 → wfM m8 → ((z7 > 0 → ((x4 ≠ 0 → ((z7 ≠ 0 ∧ inL (Int.tdiv x2 z7)) ∧ ((inR (Int.tdiv x2 z7)) ∧ (P (Int.tdiv x2 z7) m8)))) ∧ (¬ (x4 ≠ 0) → ((z7 ≠ 0 ∧ inL (Int.tdiv x0 z7)) ∧ ((inR (Int.tdiv x0 z7)) ∧ (P (Int.tdiv x0 z7) m8)))))) ∧ (¬ (z7 > 0) → (P (-1) m8))))) : CI l G Y_S_part d [.inr (.inl x0), .inr (.inl x2), .inl x4] m P := by
  refine CI.of [(0, .inr (.inl x0)), (2, .inr (.inl x2)), (4, .inl x4)] k_S_part.1 (Nat.le_of_ble_eq_true rfl) rfl (Wp.wf (fun hw _ hl hs => ?_))
  have H0 := H hw (hl _ (List.mem_of_getElem? (i := 0) rfl)) (hl _ (List.mem_of_getElem? (i := 1) rfl)) (hl _ (List.mem_of_getElem? (i := 2) rfl))
  refine Wp.lload_n 0 0 d_S_part_0 rfl rfl ?_
  refine Wp.lload_n 1 2 d_S_part_1 rfl rfl ?_
  obtain ⟨e1, P2, hd3, ho4, H5⟩ := H0
  refine Wq.SJ (st := []) [.inr (.inl x0), .inr (.inl x2)] d_S_part_2 k_S_commonDivisor ml_S_328 rfl  (fun h => by cases h) (Nat.le_of_ble_eq_true rfl) hd3 ho4 (fun z7 m8 hp9 hz10 hw11 => ?_)
  have H6 := H5 z7 m8 hp9 hz10 hw11
  refine Wp.lstore 5 [(0, .inr (.inl x0)), (2, .inr (.inl x2)), (4, .inl x4), (5, .inr (.inl z7))] d_S_part_5 (by decide) rfl ?_
  refine Wp.lload 3 5 d_S_part_7 rfl ?_
  refine Wp.lconst (x := 0) d_S_part_9 (by decide) (by decide) ?_
  obtain ⟨H13, H14⟩ := H6
  refine Wq.lif_gt 16 d_S_part_10 d_S_part_11 (by decide) (fun c12 => ?_) (fun c12 => ?_)
  · have H15 := H13 c12
    refine Wp.iload 2 4 d_S_part_16 rfl ?_
    obtain ⟨H18, H19⟩ := H15
    refine Wp.if_ne 25 d_S_part_18 (by decide) (fun c17 => ?_) (fun c17 => ?_)
    · have H20 := H18 c17
      refine Wp.lload_n 1 2 d_S_part_25 rfl rfl ?_
      refine Wp.lload 3 5 d_S_part_26 rfl ?_
      obtain ⟨s22, H23⟩ := H20
      refine Wq.ldiv d_S_part_28 s22.1 s22.2 ?_
      obtain ⟨s24, H25⟩ := H23
      refine Wq.l2i d_S_part_29 s24 ?_
      exact Wq.iret d_S_part_30 rfl H25
    · have H21 := H19 c17
      refine Wp.lload_n 0 0 d_S_part_21 rfl rfl ?_
      refine Wp.goto 26 d_S_part_22 (by decide) ?_
      refine Wp.lload 3 5 d_S_part_26 rfl ?_
      obtain ⟨s26, H27⟩ := H21
      refine Wq.ldiv d_S_part_28 s26.1 s26.2 ?_
      obtain ⟨s28, H29⟩ := H27
      refine Wq.l2i d_S_part_29 s28 ?_
      exact Wq.iret d_S_part_30 rfl H29
  · have H16 := H14 c12
    refine Wp.iconst d_S_part_14 (by decide) ?_
    exact Wq.iret d_S_part_15 rfl H16
theorem d_S_parts_0 : decode Y_S_parts.2.1 0 = .ok (.iload_n 1, 1) := by decide +kernel
theorem d_S_parts_1 : decode Y_S_parts.2.1 1 = .ok (.ifCond .lt 26, 3) := by decide +kernel
theorem d_S_parts_4 : decode Y_S_parts.2.1 4 = .ok (.iload_n 1, 1) := by decide +kernel
theorem d_S_parts_5 : decode Y_S_parts.2.1 5 = .ok (.aload_n 0, 1) := by decide +kernel
theorem d_S_parts_6 : decode Y_S_parts.2.1 6 = .ok (.getfield 70, 3) := by decide +kernel
theorem d_S_parts_9 : decode Y_S_parts.2.1 9 = .ok (.getfield 336, 3) := by decide +kernel
theorem d_S_parts_12 : decode Y_S_parts.2.1 12 = .ok (.if_icmp .ge 15, 3) := by decide +kernel
theorem d_S_parts_15 : decode Y_S_parts.2.1 15 = .ok (.aload_n 0, 1) := by decide +kernel
theorem d_S_parts_16 : decode Y_S_parts.2.1 16 = .ok (.getfield 70, 3) := by decide +kernel
theorem d_S_parts_19 : decode Y_S_parts.2.1 19 = .ok (.getfield 339, 3) := by decide +kernel
theorem d_S_parts_22 : decode Y_S_parts.2.1 22 = .ok (.iload_n 1, 1) := by decide +kernel
theorem d_S_parts_23 : decode Y_S_parts.2.1 23 = .ok (.iaload, 1) := by decide +kernel
theorem d_S_parts_24 : decode Y_S_parts.2.1 24 = .ok (.goto 4, 3) := by decide +kernel
theorem d_S_parts_27 : decode Y_S_parts.2.1 27 = .ok (.iconst (-1), 1) := by decide +kernel
theorem d_S_parts_28 : decode Y_S_parts.2.1 28 = .ok (.ireturn, 1) := by decide +kernel
theorem e_S_parts {l : Launch} {G : GT} {d : Nat} {P : Int → MM → Prop} {m : MM} (x1 : Int)  (H : wfM m → inR x1 → (x1 < 0 → (P (-1) m)) ∧ (¬ (x1 < 0) → ((x1 ≥ (m 38 5) → (P (-1) m)) ∧ (¬ (x1 ≥ (m 38 5)) → ((0 ≤ x1 ∧ x1 < (5 : Int)) ∧ (P (m 44 x1) m)))))) : CI l G Y_S_parts d [.inr (.inr 0), .inl x1] m P := by
  refine CI.of [(0, .inr (.inr 0)), (1, .inl x1)] k_S_parts.1 (Nat.le_of_ble_eq_true rfl) rfl (Wp.wf (fun hw _ hl hs => ?_))
  have H0 := H hw (hl _ (List.mem_of_getElem? (i := 1) rfl))
  refine Wp.iload_n 1 1 d_S_parts_0 rfl rfl ?_
  obtain ⟨H2, H3⟩ := H0
  refine Wp.if_lt 27 d_S_parts_1 (by decide) (fun c1 => ?_) (fun c1 => ?_)
  · have H4 := H2 c1
    refine Wp.iconst d_S_parts_27 (by decide) ?_
    exact Wq.iret d_S_parts_28 rfl H4
  · have H5 := H3 c1
    refine Wp.iload_n 1 1 d_S_parts_4 rfl rfl ?_
    refine Wp.aload_n 0 0 d_S_parts_5 rfl rfl ?_
    refine Wp.getP 38 d_S_parts_6 fl_S_70 rfl rfl rfl ?_
    refine Wq.getI 5 rfl d_S_parts_9 fl_S_336 rfl (Or.inl rfl) ?_
    obtain ⟨H7, H8⟩ := H5
    refine Wp.icmp_ge 27 d_S_parts_12 (by decide) (fun c6 => ?_) (fun c6 => ?_)
    · have H9 := H7 c6
      refine Wp.iconst d_S_parts_27 (by decide) ?_
      exact Wq.iret d_S_parts_28 rfl H9
    · have H10 := H8 c6
      refine Wp.aload_n 0 0 d_S_parts_15 rfl rfl ?_
      refine Wp.getP 38 d_S_parts_16 fl_S_70 rfl rfl rfl ?_
      refine Wp.getP 44 d_S_parts_19 fl_S_339 rfl rfl rfl ?_
      refine Wp.iload_n 1 1 d_S_parts_22 rfl rfl ?_
      obtain ⟨s11, H12⟩ := H10
      refine Wp.iald d_S_parts_23 rfl (Or.inl rfl) s11.1 s11.2 ?_
      refine Wp.goto 28 d_S_parts_24 (by decide) ?_
      exact Wq.iret d_S_parts_28 rfl H12
theorem d_S_like_0 : decode Y_S_like.2.1 0 = .ok (.aload_n 0, 1) := by decide +kernel
theorem d_S_like_1 : decode Y_S_like.2.1 1 = .ok (.getfield 27, 3) := by decide +kernel
theorem d_S_like_4 : decode Y_S_like.2.1 4 = .ok (.iload_n 1, 1) := by decide +kernel
theorem d_S_like_5 : decode Y_S_like.2.1 5 = .ok (.invokevirtual 142, 3) := by decide +kernel
theorem d_S_like_8 : decode Y_S_like.2.1 8 = .ok (.ifCond .ne 5, 3) := by decide +kernel
theorem d_S_like_11 : decode Y_S_like.2.1 11 = .ok (.iconst (-1), 1) := by decide +kernel
theorem d_S_like_12 : decode Y_S_like.2.1 12 = .ok (.ireturn, 1) := by decide +kernel
theorem d_S_like_13 : decode Y_S_like.2.1 13 = .ok (.iconst 0, 1) := by decide +kernel
theorem d_S_like_14 : decode Y_S_like.2.1 14 = .ok (.istore_n 2, 1) := by decide +kernel
theorem d_S_like_15 : decode Y_S_like.2.1 15 = .ok (.iconst 0, 1) := by decide +kernel
theorem d_S_like_16 : decode Y_S_like.2.1 16 = .ok (.istore_n 3, 1) := by decide +kernel
theorem d_S_like_17 : decode Y_S_like.2.1 17 = .ok (.iload_n 3, 1) := by decide +kernel
theorem d_S_like_18 : decode Y_S_like.2.1 18 = .ok (.aload_n 0, 1) := by decide +kernel
theorem d_S_like_19 : decode Y_S_like.2.1 19 = .ok (.getfield 27, 3) := by decide +kernel
theorem d_S_like_22 : decode Y_S_like.2.1 22 = .ok (.getfield 119, 3) := by decide +kernel
theorem d_S_like_25 : decode Y_S_like.2.1 25 = .ok (.if_icmp .ge 32, 3) := by decide +kernel
theorem d_S_like_28 : decode Y_S_like.2.1 28 = .ok (.iload_n 3, 1) := by decide +kernel
theorem d_S_like_29 : decode Y_S_like.2.1 29 = .ok (.iload_n 1, 1) := by decide +kernel
theorem d_S_like_30 : decode Y_S_like.2.1 30 = .ok (.if_icmp .eq 21, 3) := by decide +kernel
theorem d_S_like_33 : decode Y_S_like.2.1 33 = .ok (.aload_n 0, 1) := by decide +kernel
theorem d_S_like_34 : decode Y_S_like.2.1 34 = .ok (.getfield 27, 3) := by decide +kernel
theorem d_S_like_37 : decode Y_S_like.2.1 37 = .ok (.iload_n 1, 1) := by decide +kernel
theorem d_S_like_38 : decode Y_S_like.2.1 38 = .ok (.iload_n 3, 1) := by decide +kernel
theorem d_S_like_39 : decode Y_S_like.2.1 39 = .ok (.invokevirtual 342, 3) := by decide +kernel
theorem d_S_like_42 : decode Y_S_like.2.1 42 = .ok (.ifCond .eq 9, 3) := by decide +kernel
theorem d_S_like_45 : decode Y_S_like.2.1 45 = .ok (.iload_n 2, 1) := by decide +kernel
theorem d_S_like_46 : decode Y_S_like.2.1 46 = .ok (.iconst 1, 1) := by decide +kernel
theorem d_S_like_47 : decode Y_S_like.2.1 47 = .ok (.iload_n 3, 1) := by decide +kernel
theorem d_S_like_48 : decode Y_S_like.2.1 48 = .ok (.ishl, 1) := by decide +kernel
theorem d_S_like_49 : decode Y_S_like.2.1 49 = .ok (.ior, 1) := by decide +kernel
theorem d_S_like_50 : decode Y_S_like.2.1 50 = .ok (.istore_n 2, 1) := by decide +kernel
theorem d_S_like_51 : decode Y_S_like.2.1 51 = .ok (.iinc 3 1, 3) := by decide +kernel
theorem d_S_like_54 : decode Y_S_like.2.1 54 = .ok (.goto (-37), 3) := by decide +kernel
theorem d_S_like_57 : decode Y_S_like.2.1 57 = .ok (.iload_n 2, 1) := by decide +kernel
theorem d_S_like_58 : decode Y_S_like.2.1 58 = .ok (.ireturn, 1) := by decide +kernel
theorem e_S_like {l : Launch} {G : GT} {d : Nat} {P : Int → MM → Prop} {m : MM} (x1 : Int)  (H : wfM m → inR x1 → ∃ b1 : Nat, m 0 5 = b1 ∧ isB b1 ∧ (∃ (e5 : Nat) (P6 : Int → MM → Prop), e5 < d ∧ CI l G Y_Board_has e5 [.inr (.inr b1), .inl x1] m P6 ∧ (∀ z11 m12, P6 z11 m12 → inR z11 → wfM m12 → ((z11 ≠ 0 → (Wq l G false Y_S_like d (QI P) 17 [(0, .inr (.inr 0)), (1, .inl x1), (2, .inl 0), (3, .inl 0)] [] m12)) ∧ (¬ (z11 ≠ 0) → (P (-1) m12)))))) : CI l G Y_S_like d [.inr (.inr 0), .inl x1] m P := by
  refine CI.of [(0, .inr (.inr 0)), (1, .inl x1)] k_S_like.1 (Nat.le_of_ble_eq_true rfl) rfl (Wp.wf (fun hw _ hl hs => ?_))
  have H0 := H hw (hl _ (List.mem_of_getElem? (i := 1) rfl))
  refine Wp.aload_n 0 0 d_S_like_0 rfl rfl ?_
  obtain ⟨b1, hb2, hB3, H4⟩ := H0
  refine Wp.getR b1 d_S_like_1 fl_S_27 rfl (Or.inl rfl) rfl hb2 ?_
  refine Wp.iload_n 1 1 d_S_like_4 rfl rfl ?_
  obtain ⟨e5, P6, hd7, ho8, H9⟩ := H4
  refine Wq.VI (st := []) [.inl x1] d_S_like_5 k_Board_has ml_S_142 rfl (isB_lay hB3) rfl (fun h => by cases h) (Nat.le_of_ble_eq_true rfl) hd7 ho8 (fun z11 m12 hp13 hz14 hw15 => ?_)
  have H10 := H9 z11 m12 hp13 hz14 hw15
  obtain ⟨H17, H18⟩ := H10
  refine Wp.if_ne 13 d_S_like_8 (by decide) (fun c16 => ?_) (fun c16 => ?_)
  · have H19 := H17 c16
    refine Wp.iconst d_S_like_13 (by decide) ?_
    refine Wp.istore_n 2 [(0, .inr (.inr 0)), (1, .inl x1), (2, .inl 0)] d_S_like_14 rfl (by decide) rfl ?_
    refine Wp.iconst d_S_like_15 (by decide) ?_
    refine Wp.istore_n 3 [(0, .inr (.inr 0)), (1, .inl x1), (2, .inl 0), (3, .inl 0)] d_S_like_16 rfl (by decide) rfl ?_
    exact H19
  · have H20 := H18 c16
    refine Wp.iconst d_S_like_11 (by decide) ?_
    exact Wq.iret d_S_like_12 rfl H20
theorem s_S_like_17 {l : Launch} {G : GT} {d : Nat} {P : Int → MM → Prop} {m : MM} (x1 : Int) (x2 : Int) (x3 : Int)  (H : wfM m → inR x1 → inR x2 → inR x3 → ∃ b1 : Nat, m 0 5 = b1 ∧ isB b1 ∧ ((x3 ≥ (m b1 0) → (P x2 m)) ∧ (¬ (x3 ≥ (m b1 0)) → ((x3 = x1 → ((inR (x3 + 1)) ∧ (Wq l G false Y_S_like d (QI P) 17 [(0, .inr (.inr 0)), (1, .inl x1), (2, .inl x2), (3, .inl (x3 + 1))] [] m))) ∧ (¬ (x3 = x1) → (∃ b17 : Nat, m 0 5 = b17 ∧ isB b17 ∧ (∃ (e21 : Nat) (P22 : Int → MM → Prop), e21 < d ∧ CI l G Y_Board_exchangeable e21 [.inr (.inr b17), .inl x1, .inl x3] m P22 ∧ (∀ z27 m28, P22 z27 m28 → inR z27 → wfM m28 → ((z27 = 0 → ((inR (x3 + 1)) ∧ (Wq l G false Y_S_like d (QI P) 17 [(0, .inr (.inr 0)), (1, .inl x1), (2, .inl x2), (3, .inl (x3 + 1))] [] m28))) ∧ (¬ (z27 = 0) → ((inR (x3 + 1)) ∧ (Wq l G false Y_S_like d (QI P) 17 [(0, .inr (.inr 0)), (1, .inl x1), (2, .inl (bOr x2 (bShl 1 x3))), (3, .inl (x3 + 1))] [] m28)))))))))))) : Wq l G false Y_S_like d (QI P) 17 [(0, .inr (.inr 0)), (1, .inl x1), (2, .inl x2), (3, .inl x3)] [] m := by
  refine Wp.wf (fun hw _ hl hs => ?_)
  have H0 := H hw (hl _ (List.mem_of_getElem? (i := 1) rfl)) (hl _ (List.mem_of_getElem? (i := 2) rfl)) (hl _ (List.mem_of_getElem? (i := 3) rfl))
  refine Wp.iload_n 3 3 d_S_like_17 rfl rfl ?_
  refine Wp.aload_n 0 0 d_S_like_18 rfl rfl ?_
  obtain ⟨b1, hb2, hB3, H4⟩ := H0
  refine Wp.getR b1 d_S_like_19 fl_S_27 rfl (Or.inl rfl) rfl hb2 ?_
  refine Wq.getI 0 rfl d_S_like_22 fl_S_119 (isB_lay hB3) (Or.inl rfl) ?_
  obtain ⟨H6, H7⟩ := H4
  refine Wp.icmp_ge 57 d_S_like_25 (by decide) (fun c5 => ?_) (fun c5 => ?_)
  · have H8 := H6 c5
    refine Wp.iload_n 2 2 d_S_like_57 rfl rfl ?_
    exact Wq.iret d_S_like_58 rfl H8
  · have H9 := H7 c5
    refine Wp.iload_n 3 3 d_S_like_28 rfl rfl ?_
    refine Wp.iload_n 1 1 d_S_like_29 rfl rfl ?_
    obtain ⟨H11, H12⟩ := H9
    refine Wp.icmp_eq 51 d_S_like_30 (by decide) (fun c10 => ?_) (fun c10 => ?_)
    · have H13 := H11 c10
      obtain ⟨s15, H16⟩ := H13
      refine Wp.iinc 3 3 [(0, .inr (.inr 0)), (1, .inl x1), (2, .inl x2), (3, .inl (x3 + 1))] d_S_like_51 rfl s15 (by decide) rfl ?_
      refine Wp.goto 17 d_S_like_54 (by decide) ?_
      exact H16
    · have H14 := H12 c10
      refine Wp.aload_n 0 0 d_S_like_33 rfl rfl ?_
      obtain ⟨b17, hb18, hB19, H20⟩ := H14
      refine Wp.getR b17 d_S_like_34 fl_S_27 rfl (Or.inl rfl) rfl hb18 ?_
      refine Wp.iload_n 1 1 d_S_like_37 rfl rfl ?_
      refine Wp.iload_n 3 3 d_S_like_38 rfl rfl ?_
      obtain ⟨e21, P22, hd23, ho24, H25⟩ := H20
      refine Wq.VI (st := []) [.inl x1, .inl x3] d_S_like_39 k_Board_exchangeable ml_S_342 rfl (isB_lay hB19) rfl (fun h => by cases h) (Nat.le_of_ble_eq_true rfl) hd23 ho24 (fun z27 m28 hp29 hz30 hw31 => ?_)
      have H26 := H25 z27 m28 hp29 hz30 hw31
      obtain ⟨H33, H34⟩ := H26
      refine Wp.if_eq 51 d_S_like_42 (by decide) (fun c32 => ?_) (fun c32 => ?_)
      · have H35 := H33 c32
        obtain ⟨s37, H38⟩ := H35
        refine Wp.iinc 3 3 [(0, .inr (.inr 0)), (1, .inl x1), (2, .inl x2), (3, .inl (x3 + 1))] d_S_like_51 rfl s37 (by decide) rfl ?_
        refine Wp.goto 17 d_S_like_54 (by decide) ?_
        exact H38
      · have H36 := H34 c32
        refine Wp.iload_n 2 2 d_S_like_45 rfl rfl ?_
        refine Wp.iconst d_S_like_46 (by decide) ?_
        refine Wp.iload_n 3 3 d_S_like_47 rfl rfl ?_
        refine Wp.ishl d_S_like_48 ?_
        refine Wp.ior d_S_like_49 ?_
        refine Wp.istore_n 2 [(0, .inr (.inr 0)), (1, .inl x1), (2, .inl (bOr x2 (bShl 1 x3))), (3, .inl x3)] d_S_like_50 rfl (by decide) rfl ?_
        obtain ⟨s39, H40⟩ := H36
        refine Wp.iinc 3 3 [(0, .inr (.inr 0)), (1, .inl x1), (2, .inl (bOr x2 (bShl 1 x3))), (3, .inl (x3 + 1))] d_S_like_51 rfl s39 (by decide) rfl ?_
        refine Wp.goto 17 d_S_like_54 (by decide) ?_
        exact H40
theorem d_S_duel_0 : decode Y_S_duel.2.1 0 = .ok (.aload_n 0, 1) := by decide +kernel
theorem d_S_duel_1 : decode Y_S_duel.2.1 1 = .ok (.getfield 91, 3) := by decide +kernel
theorem d_S_duel_4 : decode Y_S_duel.2.1 4 = .ok (.invokevirtual 132, 3) := by decide +kernel
theorem d_S_duel_7 : decode Y_S_duel.2.1 7 = .ok (.aload_n 0, 1) := by decide +kernel
theorem d_S_duel_8 : decode Y_S_duel.2.1 8 = .ok (.getfield 27, 3) := by decide +kernel
theorem d_S_duel_11 : decode Y_S_duel.2.1 11 = .ok (.iload_n 1, 1) := by decide +kernel
theorem d_S_duel_12 : decode Y_S_duel.2.1 12 = .ok (.invokevirtual 142, 3) := by decide +kernel
theorem d_S_duel_15 : decode Y_S_duel.2.1 15 = .ok (.ifCond .eq 19, 3) := by decide +kernel
theorem d_S_duel_18 : decode Y_S_duel.2.1 18 = .ok (.aload_n 0, 1) := by decide +kernel
theorem d_S_duel_19 : decode Y_S_duel.2.1 19 = .ok (.getfield 27, 3) := by decide +kernel
theorem d_S_duel_22 : decode Y_S_duel.2.1 22 = .ok (.iload_n 2, 1) := by decide +kernel
theorem d_S_duel_23 : decode Y_S_duel.2.1 23 = .ok (.invokevirtual 142, 3) := by decide +kernel
theorem d_S_duel_26 : decode Y_S_duel.2.1 26 = .ok (.ifCond .eq 8, 3) := by decide +kernel
theorem d_S_duel_29 : decode Y_S_duel.2.1 29 = .ok (.iload_n 1, 1) := by decide +kernel
theorem d_S_duel_30 : decode Y_S_duel.2.1 30 = .ok (.iload_n 2, 1) := by decide +kernel
theorem d_S_duel_31 : decode Y_S_duel.2.1 31 = .ok (.if_icmp .ne 5, 3) := by decide +kernel
theorem d_S_duel_34 : decode Y_S_duel.2.1 34 = .ok (.iconst (-1), 1) := by decide +kernel
theorem d_S_duel_35 : decode Y_S_duel.2.1 35 = .ok (.ireturn, 1) := by decide +kernel
theorem d_S_duel_36 : decode Y_S_duel.2.1 36 = .ok (.aload_n 0, 1) := by decide +kernel
theorem d_S_duel_37 : decode Y_S_duel.2.1 37 = .ok (.iload_n 1, 1) := by decide +kernel
theorem d_S_duel_38 : decode Y_S_duel.2.1 38 = .ok (.iload_n 2, 1) := by decide +kernel
theorem d_S_duel_39 : decode Y_S_duel.2.1 39 = .ok (.invokevirtual 346, 3) := by decide +kernel
theorem d_S_duel_42 : decode Y_S_duel.2.1 42 = .ok (.iconst 0, 1) := by decide +kernel
theorem d_S_duel_43 : decode Y_S_duel.2.1 43 = .ok (.istore_n 3, 1) := by decide +kernel
theorem d_S_duel_44 : decode Y_S_duel.2.1 44 = .ok (.iconst 0, 1) := by decide +kernel
theorem d_S_duel_45 : decode Y_S_duel.2.1 45 = .ok (.istore 4, 2) := by decide +kernel
theorem d_S_duel_47 : decode Y_S_duel.2.1 47 = .ok (.iload 4, 2) := by decide +kernel
theorem d_S_duel_49 : decode Y_S_duel.2.1 49 = .ok (.iconst 4, 1) := by decide +kernel
theorem d_S_duel_50 : decode Y_S_duel.2.1 50 = .ok (.if_icmp .ge 60, 3) := by decide +kernel
theorem d_S_duel_53 : decode Y_S_duel.2.1 53 = .ok (.iconst 0, 1) := by decide +kernel
theorem d_S_duel_54 : decode Y_S_duel.2.1 54 = .ok (.istore 5, 2) := by decide +kernel
theorem d_S_duel_56 : decode Y_S_duel.2.1 56 = .ok (.iload 5, 2) := by decide +kernel
theorem d_S_duel_58 : decode Y_S_duel.2.1 58 = .ok (.iconst 4, 1) := by decide +kernel
theorem d_S_duel_59 : decode Y_S_duel.2.1 59 = .ok (.if_icmp .ge 45, 3) := by decide +kernel
theorem d_S_duel_62 : decode Y_S_duel.2.1 62 = .ok (.aload_n 0, 1) := by decide +kernel
theorem d_S_duel_63 : decode Y_S_duel.2.1 63 = .ok (.iload 4, 2) := by decide +kernel
theorem d_S_duel_65 : decode Y_S_duel.2.1 65 = .ok (.iload 5, 2) := by decide +kernel
theorem d_S_duel_67 : decode Y_S_duel.2.1 67 = .ok (.invokevirtual 349, 3) := by decide +kernel
theorem d_S_duel_70 : decode Y_S_duel.2.1 70 = .ok (.ifCond .eq 28, 3) := by decide +kernel
theorem d_S_duel_73 : decode Y_S_duel.2.1 73 = .ok (.iload_n 3, 1) := by decide +kernel
theorem d_S_duel_74 : decode Y_S_duel.2.1 74 = .ok (.ifCond .ne 21, 3) := by decide +kernel
theorem d_S_duel_77 : decode Y_S_duel.2.1 77 = .ok (.aload_n 0, 1) := by decide +kernel
theorem d_S_duel_78 : decode Y_S_duel.2.1 78 = .ok (.getfield 91, 3) := by decide +kernel
theorem d_S_duel_81 : decode Y_S_duel.2.1 81 = .ok (.iload 4, 2) := by decide +kernel
theorem d_S_duel_83 : decode Y_S_duel.2.1 83 = .ok (.invokevirtual 252, 3) := by decide +kernel
theorem d_S_duel_86 : decode Y_S_duel.2.1 86 = .ok (.aload_n 0, 1) := by decide +kernel
theorem d_S_duel_87 : decode Y_S_duel.2.1 87 = .ok (.getfield 91, 3) := by decide +kernel
theorem d_S_duel_90 : decode Y_S_duel.2.1 90 = .ok (.iload 5, 2) := by decide +kernel
theorem d_S_duel_92 : decode Y_S_duel.2.1 92 = .ok (.invokevirtual 252, 3) := by decide +kernel
theorem d_S_duel_95 : decode Y_S_duel.2.1 95 = .ok (.iinc 3 1, 3) := by decide +kernel
theorem d_S_duel_98 : decode Y_S_duel.2.1 98 = .ok (.iinc 5 1, 3) := by decide +kernel
theorem d_S_duel_101 : decode Y_S_duel.2.1 101 = .ok (.goto (-45), 3) := by decide +kernel
theorem d_S_duel_104 : decode Y_S_duel.2.1 104 = .ok (.iinc 4 1, 3) := by decide +kernel
theorem d_S_duel_107 : decode Y_S_duel.2.1 107 = .ok (.goto (-60), 3) := by decide +kernel
theorem d_S_duel_110 : decode Y_S_duel.2.1 110 = .ok (.iload_n 3, 1) := by decide +kernel
theorem d_S_duel_111 : decode Y_S_duel.2.1 111 = .ok (.ireturn, 1) := by decide +kernel
theorem e_S_duel {l : Launch} {G : GT} {d : Nat} {P : Int → MM → Prop} {m : MM} (x1 : Int) (x2 : Int)  (H : wfM m → inR x1 → inR x2 → ∃ (e1 : Nat) (P2 : MM → Prop), e1 < d ∧ CV l G Y_Lying_clear e1 [.inr (.inr 67)] m P2 ∧ (∀ m8, P2 m8 → wfM m8 → (∃ b12 : Nat, m8 0 5 = b12 ∧ isB b12 ∧ (∃ (e16 : Nat) (P17 : Int → MM → Prop), e16 < d ∧ CI l G Y_Board_has e16 [.inr (.inr b12), .inl x1] m8 P17 ∧ (∀ z22 m23, P17 z22 m23 → inR z22 → wfM m23 → ((z22 = 0 → (P (-1) m23)) ∧ (¬ (z22 = 0) → (∃ b32 : Nat, m23 0 5 = b32 ∧ isB b32 ∧ (∃ (e36 : Nat) (P37 : Int → MM → Prop), e36 < d ∧ CI l G Y_Board_has e36 [.inr (.inr b32), .inl x2] m23 P37 ∧ (∀ z42 m43, P37 z42 m43 → inR z42 → wfM m43 → ((z42 = 0 → (P (-1) m43)) ∧ (¬ (z42 = 0) → ((x1 ≠ x2 → (∃ (e57 : Nat) (P58 : MM → Prop), e57 < d ∧ CV l G Y_S_playAll e57 [.inr (.inr 0), .inl x1, .inl x2] m43 P58 ∧ (∀ m64, P58 m64 → wfM m64 → (Wq l G false Y_S_duel d (QI P) 47 [(0, .inr (.inr 0)), (3, .inl 0), (4, .inl 0)] [] m64)))) ∧ (¬ (x1 ≠ x2) → (P (-1) m43))))))))))))))) : CI l G Y_S_duel d [.inr (.inr 0), .inl x1, .inl x2] m P := by
  refine CI.of [(0, .inr (.inr 0)), (1, .inl x1), (2, .inl x2)] k_S_duel.1 (Nat.le_of_ble_eq_true rfl) rfl (Wp.wf (fun hw _ hl hs => ?_))
  have H0 := H hw (hl _ (List.mem_of_getElem? (i := 1) rfl)) (hl _ (List.mem_of_getElem? (i := 2) rfl))
  refine Wp.aload_n 0 0 d_S_duel_0 rfl rfl ?_
  refine Wp.getP 67 d_S_duel_1 fl_S_91 rfl rfl rfl ?_
  obtain ⟨e1, P2, hd3, ho4, H5⟩ := H0
  refine Wq.VV (st := []) [] d_S_duel_4 k_Lying_clear ml_S_132 rfl rfl rfl (fun h => by cases h) (Nat.le_of_ble_eq_true rfl) hd3 ho4 (fun m8 hp9 hw11 => ?_)
  have H6 := H5 m8 hp9 hw11
  refine Wp.aload_n 0 0 d_S_duel_7 rfl rfl ?_
  obtain ⟨b12, hb13, hB14, H15⟩ := H6
  refine Wp.getR b12 d_S_duel_8 fl_S_27 rfl (Or.inl rfl) rfl hb13 ?_
  refine Wp.iload_n 1 1 d_S_duel_11 rfl rfl ?_
  obtain ⟨e16, P17, hd18, ho19, H20⟩ := H15
  refine Wq.VI (st := []) [.inl x1] d_S_duel_12 k_Board_has ml_S_142 rfl (isB_lay hB14) rfl (fun h => by cases h) (Nat.le_of_ble_eq_true rfl) hd18 ho19 (fun z22 m23 hp24 hz25 hw26 => ?_)
  have H21 := H20 z22 m23 hp24 hz25 hw26
  obtain ⟨H28, H29⟩ := H21
  refine Wp.if_eq 34 d_S_duel_15 (by decide) (fun c27 => ?_) (fun c27 => ?_)
  · have H30 := H28 c27
    refine Wp.iconst d_S_duel_34 (by decide) ?_
    exact Wq.iret d_S_duel_35 rfl H30
  · have H31 := H29 c27
    refine Wp.aload_n 0 0 d_S_duel_18 rfl rfl ?_
    obtain ⟨b32, hb33, hB34, H35⟩ := H31
    refine Wp.getR b32 d_S_duel_19 fl_S_27 rfl (Or.inl rfl) rfl hb33 ?_
    refine Wp.iload_n 2 2 d_S_duel_22 rfl rfl ?_
    obtain ⟨e36, P37, hd38, ho39, H40⟩ := H35
    refine Wq.VI (st := []) [.inl x2] d_S_duel_23 k_Board_has ml_S_142 rfl (isB_lay hB34) rfl (fun h => by cases h) (Nat.le_of_ble_eq_true rfl) hd38 ho39 (fun z42 m43 hp44 hz45 hw46 => ?_)
    have H41 := H40 z42 m43 hp44 hz45 hw46
    obtain ⟨H48, H49⟩ := H41
    refine Wp.if_eq 34 d_S_duel_26 (by decide) (fun c47 => ?_) (fun c47 => ?_)
    · have H50 := H48 c47
      refine Wp.iconst d_S_duel_34 (by decide) ?_
      exact Wq.iret d_S_duel_35 rfl H50
    · have H51 := H49 c47
      refine Wp.iload_n 1 1 d_S_duel_29 rfl rfl ?_
      refine Wp.iload_n 2 2 d_S_duel_30 rfl rfl ?_
      obtain ⟨H53, H54⟩ := H51
      refine Wp.icmp_ne 36 d_S_duel_31 (by decide) (fun c52 => ?_) (fun c52 => ?_)
      · have H55 := H53 c52
        refine Wp.aload_n 0 0 d_S_duel_36 rfl rfl ?_
        refine Wp.iload_n 1 1 d_S_duel_37 rfl rfl ?_
        refine Wp.iload_n 2 2 d_S_duel_38 rfl rfl ?_
        obtain ⟨e57, P58, hd59, ho60, H61⟩ := H55
        refine Wq.VV (st := []) [.inl x1, .inl x2] d_S_duel_39 k_S_playAll ml_S_346 rfl rfl rfl (fun h => by cases h) (Nat.le_of_ble_eq_true rfl) hd59 ho60 (fun m64 hp65 hw67 => ?_)
        have H62 := H61 m64 hp65 hw67
        refine Wp.iconst d_S_duel_42 (by decide) ?_
        refine Wp.istore_n 3 [(0, .inr (.inr 0)), (1, .inl x1), (2, .inl x2), (3, .inl 0)] d_S_duel_43 rfl (by decide) rfl ?_
        refine Wp.iconst d_S_duel_44 (by decide) ?_
        refine Wp.istore 4 [(0, .inr (.inr 0)), (1, .inl x1), (2, .inl x2), (3, .inl 0), (4, .inl 0)] d_S_duel_45 (by decide) rfl ?_
        refine Wp.pick [0, 3, 4] [(0, .inr (.inr 0)), (3, .inl 0), (4, .inl 0)] rfl ?_
        exact H62
      · have H56 := H54 c52
        refine Wp.iconst d_S_duel_34 (by decide) ?_
        exact Wq.iret d_S_duel_35 rfl H56
theorem s_S_duel_47 {l : Launch} {G : GT} {d : Nat} {P : Int → MM → Prop} {m : MM} (x3 : Int) (x4 : Int)  (H : wfM m → inR x3 → inR x4 → (x4 ≥ 4 → (P x3 m)) ∧ (¬ (x4 ≥ 4) → (Wq l G false Y_S_duel d (QI P) 56 [(0, .inr (.inr 0)), (3, .inl x3), (4, .inl x4), (5, .inl 0)] [] m))) : Wq l G false Y_S_duel d (QI P) 47 [(0, .inr (.inr 0)), (3, .inl x3), (4, .inl x4)] [] m := by
  refine Wp.wf (fun hw _ hl hs => ?_)
  have H0 := H hw (hl _ (List.mem_of_getElem? (i := 1) rfl)) (hl _ (List.mem_of_getElem? (i := 2) rfl))
  refine Wp.iload 2 4 d_S_duel_47 rfl ?_
  refine Wp.iconst d_S_duel_49 (by decide) ?_
  obtain ⟨H2, H3⟩ := H0
  refine Wp.icmp_ge 110 d_S_duel_50 (by decide) (fun c1 => ?_) (fun c1 => ?_)
  · have H4 := H2 c1
    refine Wp.iload_n 1 3 d_S_duel_110 rfl rfl ?_
    exact Wq.iret d_S_duel_111 rfl H4
  · have H5 := H3 c1
    refine Wp.iconst d_S_duel_53 (by decide) ?_
    refine Wp.istore 5 [(0, .inr (.inr 0)), (3, .inl x3), (4, .inl x4), (5, .inl 0)] d_S_duel_54 (by decide) rfl ?_
    exact H5
theorem s_S_duel_56 {l : Launch} {G : GT} {d : Nat} {P : Int → MM → Prop} {m : MM} (x3 : Int) (x4 : Int) (x5 : Int)  (H : wfM m → inR x3 → inR x4 → inR x5 → (x5 ≥ 4 → ((inR (x4 + 1)) ∧ (Wq l G false Y_S_duel d (QI P) 47 [(0, .inr (.inr 0)), (3, .inl x3), (4, .inl (x4 + 1))] [] m))) ∧ (¬ (x5 ≥ 4) → (∃ (e8 : Nat) (P9 : Int → MM → Prop), e8 < d ∧ CI l G Y_S_isRest e8 [.inr (.inr 0), .inl x4, .inl x5] m P9 ∧ (∀ z14 m15, P9 z14 m15 → inR z14 → wfM m15 → ((z14 = 0 → ((inR (x5 + 1)) ∧ (Wq l G false Y_S_duel d (QI P) 56 [(0, .inr (.inr 0)), (3, .inl x3), (4, .inl x4), (5, .inl (x5 + 1))] [] m15))) ∧ (¬ (z14 = 0) → ((x3 ≠ 0 → ((inR (x3 + 1)) ∧ ((inR (x5 + 1)) ∧ (Wq l G false Y_S_duel d (QI P) 56 [(0, .inr (.inr 0)), (3, .inl (x3 + 1)), (4, .inl x4), (5, .inl (x5 + 1))] [] m15)))) ∧ (¬ (x3 ≠ 0) → (∃ (e35 : Nat) (P36 : MM → Prop), e35 < d ∧ CV l G Y_Lying_put e35 [.inr (.inr 67), .inl x4] m15 P36 ∧ (∀ m42, P36 m42 → wfM m42 → (∃ (e46 : Nat) (P47 : MM → Prop), e46 < d ∧ CV l G Y_Lying_put e46 [.inr (.inr 67), .inl x5] m42 P47 ∧ (∀ m53, P47 m53 → wfM m53 → ((inR (x3 + 1)) ∧ ((inR (x5 + 1)) ∧ (Wq l G false Y_S_duel d (QI P) 56 [(0, .inr (.inr 0)), (3, .inl (x3 + 1)), (4, .inl x4), (5, .inl (x5 + 1))] [] m53))))))))))))))) : Wq l G false Y_S_duel d (QI P) 56 [(0, .inr (.inr 0)), (3, .inl x3), (4, .inl x4), (5, .inl x5)] [] m := by
  refine Wp.wf (fun hw _ hl hs => ?_)
  have H0 := H hw (hl _ (List.mem_of_getElem? (i := 1) rfl)) (hl _ (List.mem_of_getElem? (i := 2) rfl)) (hl _ (List.mem_of_getElem? (i := 3) rfl))
  refine Wp.iload 3 5 d_S_duel_56 rfl ?_
  refine Wp.iconst d_S_duel_58 (by decide) ?_
  obtain ⟨H2, H3⟩ := H0
  refine Wp.icmp_ge 104 d_S_duel_59 (by decide) (fun c1 => ?_) (fun c1 => ?_)
  · have H4 := H2 c1
    obtain ⟨s6, H7⟩ := H4
    refine Wp.iinc 2 4 [(0, .inr (.inr 0)), (3, .inl x3), (4, .inl (x4 + 1)), (5, .inl x5)] d_S_duel_104 rfl s6 (by decide) rfl ?_
    refine Wp.goto 47 d_S_duel_107 (by decide) ?_
    refine Wp.pick [0, 1, 2] [(0, .inr (.inr 0)), (3, .inl x3), (4, .inl (x4 + 1))] rfl ?_
    exact H7
  · have H5 := H3 c1
    refine Wp.aload_n 0 0 d_S_duel_62 rfl rfl ?_
    refine Wp.iload 2 4 d_S_duel_63 rfl ?_
    refine Wp.iload 3 5 d_S_duel_65 rfl ?_
    obtain ⟨e8, P9, hd10, ho11, H12⟩ := H5
    refine Wq.VI (st := []) [.inl x4, .inl x5] d_S_duel_67 k_S_isRest ml_S_349 rfl rfl rfl (fun h => by cases h) (Nat.le_of_ble_eq_true rfl) hd10 ho11 (fun z14 m15 hp16 hz17 hw18 => ?_)
    have H13 := H12 z14 m15 hp16 hz17 hw18
    obtain ⟨H20, H21⟩ := H13
    refine Wp.if_eq 98 d_S_duel_70 (by decide) (fun c19 => ?_) (fun c19 => ?_)
    · have H22 := H20 c19
      obtain ⟨s24, H25⟩ := H22
      refine Wp.iinc 3 5 [(0, .inr (.inr 0)), (3, .inl x3), (4, .inl x4), (5, .inl (x5 + 1))] d_S_duel_98 rfl s24 (by decide) rfl ?_
      refine Wp.goto 56 d_S_duel_101 (by decide) ?_
      exact H25
    · have H23 := H21 c19
      refine Wp.iload_n 1 3 d_S_duel_73 rfl rfl ?_
      obtain ⟨H27, H28⟩ := H23
      refine Wp.if_ne 95 d_S_duel_74 (by decide) (fun c26 => ?_) (fun c26 => ?_)
      · have H29 := H27 c26
        obtain ⟨s31, H32⟩ := H29
        refine Wp.iinc 1 3 [(0, .inr (.inr 0)), (3, .inl (x3 + 1)), (4, .inl x4), (5, .inl x5)] d_S_duel_95 rfl s31 (by decide) rfl ?_
        obtain ⟨s33, H34⟩ := H32
        refine Wp.iinc 3 5 [(0, .inr (.inr 0)), (3, .inl (x3 + 1)), (4, .inl x4), (5, .inl (x5 + 1))] d_S_duel_98 rfl s33 (by decide) rfl ?_
        refine Wp.goto 56 d_S_duel_101 (by decide) ?_
        exact H34
      · have H30 := H28 c26
        refine Wp.aload_n 0 0 d_S_duel_77 rfl rfl ?_
        refine Wp.getP 67 d_S_duel_78 fl_S_91 rfl rfl rfl ?_
        refine Wp.iload 2 4 d_S_duel_81 rfl ?_
        obtain ⟨e35, P36, hd37, ho38, H39⟩ := H30
        refine Wq.VV (st := []) [.inl x4] d_S_duel_83 k_Lying_put ml_S_252 rfl rfl rfl (fun h => by cases h) (Nat.le_of_ble_eq_true rfl) hd37 ho38 (fun m42 hp43 hw45 => ?_)
        have H40 := H39 m42 hp43 hw45
        refine Wp.aload_n 0 0 d_S_duel_86 rfl rfl ?_
        refine Wp.getP 67 d_S_duel_87 fl_S_91 rfl rfl rfl ?_
        refine Wp.iload 3 5 d_S_duel_90 rfl ?_
        obtain ⟨e46, P47, hd48, ho49, H50⟩ := H40
        refine Wq.VV (st := []) [.inl x5] d_S_duel_92 k_Lying_put ml_S_252 rfl rfl rfl (fun h => by cases h) (Nat.le_of_ble_eq_true rfl) hd48 ho49 (fun m53 hp54 hw56 => ?_)
        have H51 := H50 m53 hp54 hw56
        obtain ⟨s57, H58⟩ := H51
        refine Wp.iinc 1 3 [(0, .inr (.inr 0)), (3, .inl (x3 + 1)), (4, .inl x4), (5, .inl x5)] d_S_duel_95 rfl s57 (by decide) rfl ?_
        obtain ⟨s59, H60⟩ := H58
        refine Wp.iinc 3 5 [(0, .inr (.inr 0)), (3, .inl (x3 + 1)), (4, .inl x4), (5, .inl (x5 + 1))] d_S_duel_98 rfl s59 (by decide) rfl ?_
        refine Wp.goto 56 d_S_duel_101 (by decide) ?_
        exact H60
theorem d_S_playAll_0 : decode Y_S_playAll.2.1 0 = .ok (.aload_n 0, 1) := by decide +kernel
theorem d_S_playAll_1 : decode Y_S_playAll.2.1 1 = .ok (.invokevirtual 241, 3) := by decide +kernel
theorem d_S_playAll_4 : decode Y_S_playAll.2.1 4 = .ok (.iconst 0, 1) := by decide +kernel
theorem d_S_playAll_5 : decode Y_S_playAll.2.1 5 = .ok (.istore_n 3, 1) := by decide +kernel
theorem d_S_playAll_6 : decode Y_S_playAll.2.1 6 = .ok (.iload_n 3, 1) := by decide +kernel
theorem d_S_playAll_7 : decode Y_S_playAll.2.1 7 = .ok (.iconst 4, 1) := by decide +kernel
theorem d_S_playAll_8 : decode Y_S_playAll.2.1 8 = .ok (.if_icmp .ge 115, 3) := by decide +kernel
theorem d_S_playAll_11 : decode Y_S_playAll.2.1 11 = .ok (.iconst 0, 1) := by decide +kernel
theorem d_S_playAll_12 : decode Y_S_playAll.2.1 12 = .ok (.istore 4, 2) := by decide +kernel
theorem d_S_playAll_14 : decode Y_S_playAll.2.1 14 = .ok (.iload 4, 2) := by decide +kernel
theorem d_S_playAll_16 : decode Y_S_playAll.2.1 16 = .ok (.iconst 4, 1) := by decide +kernel
theorem d_S_playAll_17 : decode Y_S_playAll.2.1 17 = .ok (.if_icmp .ge 100, 3) := by decide +kernel
theorem d_S_playAll_20 : decode Y_S_playAll.2.1 20 = .ok (.aload_n 0, 1) := by decide +kernel
theorem d_S_playAll_21 : decode Y_S_playAll.2.1 21 = .ok (.getfield 64, 3) := by decide +kernel
theorem d_S_playAll_24 : decode Y_S_playAll.2.1 24 = .ok (.aload_n 0, 1) := by decide +kernel
theorem d_S_playAll_25 : decode Y_S_playAll.2.1 25 = .ok (.getfield 60, 3) := by decide +kernel
theorem d_S_playAll_28 : decode Y_S_playAll.2.1 28 = .ok (.getfield 211, 3) := by decide +kernel
theorem d_S_playAll_31 : decode Y_S_playAll.2.1 31 = .ok (.invokevirtual 199, 3) := by decide +kernel
theorem d_S_playAll_34 : decode Y_S_playAll.2.1 34 = .ok (.aload_n 0, 1) := by decide +kernel
theorem d_S_playAll_35 : decode Y_S_playAll.2.1 35 = .ok (.getfield 64, 3) := by decide +kernel
theorem d_S_playAll_38 : decode Y_S_playAll.2.1 38 = .ok (.iload_n 1, 1) := by decide +kernel
theorem d_S_playAll_39 : decode Y_S_playAll.2.1 39 = .ok (.iload_n 3, 1) := by decide +kernel
theorem d_S_playAll_40 : decode Y_S_playAll.2.1 40 = .ok (.invokevirtual 256, 3) := by decide +kernel
theorem d_S_playAll_43 : decode Y_S_playAll.2.1 43 = .ok (.aload_n 0, 1) := by decide +kernel
theorem d_S_playAll_44 : decode Y_S_playAll.2.1 44 = .ok (.getfield 64, 3) := by decide +kernel
theorem d_S_playAll_47 : decode Y_S_playAll.2.1 47 = .ok (.iload_n 2, 1) := by decide +kernel
theorem d_S_playAll_48 : decode Y_S_playAll.2.1 48 = .ok (.iload 4, 2) := by decide +kernel
theorem d_S_playAll_50 : decode Y_S_playAll.2.1 50 = .ok (.invokevirtual 256, 3) := by decide +kernel
theorem d_S_playAll_53 : decode Y_S_playAll.2.1 53 = .ok (.aload_n 0, 1) := by decide +kernel
theorem d_S_playAll_54 : decode Y_S_playAll.2.1 54 = .ok (.getfield 64, 3) := by decide +kernel
theorem d_S_playAll_57 : decode Y_S_playAll.2.1 57 = .ok (.aload_n 0, 1) := by decide +kernel
theorem d_S_playAll_58 : decode Y_S_playAll.2.1 58 = .ok (.getfield 27, 3) := by decide +kernel
theorem d_S_playAll_61 : decode Y_S_playAll.2.1 61 = .ok (.invokevirtual 202, 3) := by decide +kernel
theorem d_S_playAll_64 : decode Y_S_playAll.2.1 64 = .ok (.aload_n 0, 1) := by decide +kernel
theorem d_S_playAll_65 : decode Y_S_playAll.2.1 65 = .ok (.getfield 95, 3) := by decide +kernel
theorem d_S_playAll_68 : decode Y_S_playAll.2.1 68 = .ok (.iload_n 3, 1) := by decide +kernel
theorem d_S_playAll_69 : decode Y_S_playAll.2.1 69 = .ok (.iload 4, 2) := by decide +kernel
theorem d_S_playAll_71 : decode Y_S_playAll.2.1 71 = .ok (.iconst 0, 1) := by decide +kernel
theorem d_S_playAll_72 : decode Y_S_playAll.2.1 72 = .ok (.invokestatic 352, 3) := by decide +kernel
theorem d_S_playAll_75 : decode Y_S_playAll.2.1 75 = .ok (.aload_n 0, 1) := by decide +kernel
theorem d_S_playAll_76 : decode Y_S_playAll.2.1 76 = .ok (.getfield 64, 3) := by decide +kernel
theorem d_S_playAll_79 : decode Y_S_playAll.2.1 79 = .ok (.getfield 244, 3) := by decide +kernel
theorem d_S_playAll_82 : decode Y_S_playAll.2.1 82 = .ok (.iload_n 1, 1) := by decide +kernel
theorem d_S_playAll_83 : decode Y_S_playAll.2.1 83 = .ok (.iaload, 1) := by decide +kernel
theorem d_S_playAll_84 : decode Y_S_playAll.2.1 84 = .ok (.iload_n 3, 1) := by decide +kernel
theorem d_S_playAll_85 : decode Y_S_playAll.2.1 85 = .ok (.isub, 1) := by decide +kernel
theorem d_S_playAll_86 : decode Y_S_playAll.2.1 86 = .ok (.iastore, 1) := by decide +kernel
theorem d_S_playAll_87 : decode Y_S_playAll.2.1 87 = .ok (.aload_n 0, 1) := by decide +kernel
theorem d_S_playAll_88 : decode Y_S_playAll.2.1 88 = .ok (.getfield 95, 3) := by decide +kernel
theorem d_S_playAll_91 : decode Y_S_playAll.2.1 91 = .ok (.iload_n 3, 1) := by decide +kernel
theorem d_S_playAll_92 : decode Y_S_playAll.2.1 92 = .ok (.iload 4, 2) := by decide +kernel
theorem d_S_playAll_94 : decode Y_S_playAll.2.1 94 = .ok (.iconst 1, 1) := by decide +kernel
theorem d_S_playAll_95 : decode Y_S_playAll.2.1 95 = .ok (.invokestatic 352, 3) := by decide +kernel
theorem d_S_playAll_98 : decode Y_S_playAll.2.1 98 = .ok (.aload_n 0, 1) := by decide +kernel
theorem d_S_playAll_99 : decode Y_S_playAll.2.1 99 = .ok (.getfield 64, 3) := by decide +kernel
theorem d_S_playAll_102 : decode Y_S_playAll.2.1 102 = .ok (.getfield 244, 3) := by decide +kernel
theorem d_S_playAll_105 : decode Y_S_playAll.2.1 105 = .ok (.iload_n 2, 1) := by decide +kernel
theorem d_S_playAll_106 : decode Y_S_playAll.2.1 106 = .ok (.iaload, 1) := by decide +kernel
theorem d_S_playAll_107 : decode Y_S_playAll.2.1 107 = .ok (.iload 4, 2) := by decide +kernel
theorem d_S_playAll_109 : decode Y_S_playAll.2.1 109 = .ok (.isub, 1) := by decide +kernel
theorem d_S_playAll_110 : decode Y_S_playAll.2.1 110 = .ok (.iastore, 1) := by decide +kernel
theorem d_S_playAll_111 : decode Y_S_playAll.2.1 111 = .ok (.iinc 4 1, 3) := by decide +kernel
theorem d_S_playAll_114 : decode Y_S_playAll.2.1 114 = .ok (.goto (-100), 3) := by decide +kernel
theorem d_S_playAll_117 : decode Y_S_playAll.2.1 117 = .ok (.iinc 3 1, 3) := by decide +kernel
theorem d_S_playAll_120 : decode Y_S_playAll.2.1 120 = .ok (.goto (-114), 3) := by decide +kernel
theorem d_S_playAll_123 : decode Y_S_playAll.2.1 123 = .ok (.return_, 1) := by decide +kernel
theorem e_S_playAll {l : Launch} {G : GT} {d : Nat} {P : MM → Prop} {m : MM} (x1 : Int) (x2 : Int)  (H : wfM m → inR x1 → inR x2 → ∃ (e1 : Nat) (P2 : MM → Prop), e1 < d ∧ CV l G Y_S_settleAhead e1 [.inr (.inr 0)] m P2 ∧ (∀ m8, P2 m8 → wfM m8 → (Wq l G false Y_S_playAll d (QV P) 6 [(0, .inr (.inr 0)), (1, .inl x1), (2, .inl x2), (3, .inl 0)] [] m8))) : CV l G Y_S_playAll d [.inr (.inr 0), .inl x1, .inl x2] m P := by
  refine CV.of [(0, .inr (.inr 0)), (1, .inl x1), (2, .inl x2)] k_S_playAll.1 (Nat.le_of_ble_eq_true rfl) rfl (Wp.wf (fun hw _ hl hs => ?_))
  have H0 := H hw (hl _ (List.mem_of_getElem? (i := 1) rfl)) (hl _ (List.mem_of_getElem? (i := 2) rfl))
  refine Wp.aload_n 0 0 d_S_playAll_0 rfl rfl ?_
  obtain ⟨e1, P2, hd3, ho4, H5⟩ := H0
  refine Wq.VV (st := []) [] d_S_playAll_1 k_S_settleAhead ml_S_241 rfl rfl rfl (fun h => by cases h) (Nat.le_of_ble_eq_true rfl) hd3 ho4 (fun m8 hp9 hw11 => ?_)
  have H6 := H5 m8 hp9 hw11
  refine Wp.iconst d_S_playAll_4 (by decide) ?_
  refine Wp.istore_n 3 [(0, .inr (.inr 0)), (1, .inl x1), (2, .inl x2), (3, .inl 0)] d_S_playAll_5 rfl (by decide) rfl ?_
  exact H6
theorem s_S_playAll_6 {l : Launch} {G : GT} {d : Nat} {P : MM → Prop} {m : MM} (x1 : Int) (x2 : Int) (x3 : Int)  (H : wfM m → inR x1 → inR x2 → inR x3 → (x3 ≥ 4 → (P m)) ∧ (¬ (x3 ≥ 4) → (Wq l G false Y_S_playAll d (QV P) 14 [(0, .inr (.inr 0)), (1, .inl x1), (2, .inl x2), (3, .inl x3), (4, .inl 0)] [] m))) : Wq l G false Y_S_playAll d (QV P) 6 [(0, .inr (.inr 0)), (1, .inl x1), (2, .inl x2), (3, .inl x3)] [] m := by
  refine Wp.wf (fun hw _ hl hs => ?_)
  have H0 := H hw (hl _ (List.mem_of_getElem? (i := 1) rfl)) (hl _ (List.mem_of_getElem? (i := 2) rfl)) (hl _ (List.mem_of_getElem? (i := 3) rfl))
  refine Wp.iload_n 3 3 d_S_playAll_6 rfl rfl ?_
  refine Wp.iconst d_S_playAll_7 (by decide) ?_
  obtain ⟨H2, H3⟩ := H0
  refine Wp.icmp_ge 123 d_S_playAll_8 (by decide) (fun c1 => ?_) (fun c1 => ?_)
  · have H4 := H2 c1
    exact Wq.vret d_S_playAll_123 rfl H4
  · have H5 := H3 c1
    refine Wp.iconst d_S_playAll_11 (by decide) ?_
    refine Wp.istore 4 [(0, .inr (.inr 0)), (1, .inl x1), (2, .inl x2), (3, .inl x3), (4, .inl 0)] d_S_playAll_12 (by decide) rfl ?_
    exact H5
theorem s_S_playAll_14 {l : Launch} {G : GT} {d : Nat} {P : MM → Prop} {m : MM} (x1 : Int) (x2 : Int) (x3 : Int) (x4 : Int)  (H : wfM m → inR x1 → inR x2 → inR x3 → inR x4 → (x4 ≥ 4 → ((inR (x3 + 1)) ∧ (Wq l G false Y_S_playAll d (QV P) 6 [(0, .inr (.inr 0)), (1, .inl x1), (2, .inl x2), (3, .inl (x3 + 1))] [] m))) ∧ (¬ (x4 ≥ 4) → (∃ (e8 : Nat) (P9 : MM → Prop), e8 < d ∧ CV l G Y_Sand_take e8 [.inr (.inr 35), .inr (.inr 33)] m P9 ∧ (∀ m15, P9 m15 → wfM m15 → (∃ (e19 : Nat) (P20 : MM → Prop), e19 < d ∧ CV l G Y_Sand_put e19 [.inr (.inr 35), .inl x1, .inl x3] m15 P20 ∧ (∀ m26, P20 m26 → wfM m26 → (∃ (e30 : Nat) (P31 : MM → Prop), e30 < d ∧ CV l G Y_Sand_put e30 [.inr (.inr 35), .inl x2, .inl x4] m26 P31 ∧ (∀ m37, P31 m37 → wfM m37 → (∃ b41 : Nat, m37 0 5 = b41 ∧ isB b41 ∧ (∃ (e45 : Nat) (P46 : MM → Prop), e45 < d ∧ CV l G Y_Sand_calm e45 [.inr (.inr 35), .inr (.inr b41)] m37 P46 ∧ (∀ m52, P46 m52 → wfM m52 → (∃ (e56 : Nat) (P57 : Int → MM → Prop), e56 < d ∧ CI l G Y_S_gainAt e56 [.inl x3, .inl x4, .inl 0] m52 P57 ∧ (∀ z62 m63, P57 z62 m63 → inR z62 → wfM m63 → ((0 ≤ x1 ∧ x1 < (5 : Int)) ∧ ((inR ((m63 37 x1) - x3)) ∧ ((0 ≤ z62 ∧ z62 < (32 : Int)) ∧ (∀ m71, m71 = up m63 69 z62 ((m63 37 x1) - x3) → (∃ (e76 : Nat) (P77 : Int → MM → Prop), e76 < d ∧ CI l G Y_S_gainAt e76 [.inl x3, .inl x4, .inl 1] m71 P77 ∧ (∀ z82 m83, P77 z82 m83 → inR z82 → wfM m83 → ((0 ≤ x2 ∧ x2 < (5 : Int)) ∧ ((inR ((m83 37 x2) - x4)) ∧ ((0 ≤ z82 ∧ z82 < (32 : Int)) ∧ (∀ m91, m91 = up m83 69 z82 ((m83 37 x2) - x4) → ((inR (x4 + 1)) ∧ (Wq l G false Y_S_playAll d (QV P) 14 [(0, .inr (.inr 0)), (1, .inl x1), (2, .inl x2), (3, .inl x3), (4, .inl (x4 + 1))] [] m91))))))))))))))))))))))))) : Wq l G false Y_S_playAll d (QV P) 14 [(0, .inr (.inr 0)), (1, .inl x1), (2, .inl x2), (3, .inl x3), (4, .inl x4)] [] m := by
  refine Wp.wf (fun hw _ hl hs => ?_)
  have H0 := H hw (hl _ (List.mem_of_getElem? (i := 1) rfl)) (hl _ (List.mem_of_getElem? (i := 2) rfl)) (hl _ (List.mem_of_getElem? (i := 3) rfl)) (hl _ (List.mem_of_getElem? (i := 4) rfl))
  refine Wp.iload 4 4 d_S_playAll_14 rfl ?_
  refine Wp.iconst d_S_playAll_16 (by decide) ?_
  obtain ⟨H2, H3⟩ := H0
  refine Wp.icmp_ge 117 d_S_playAll_17 (by decide) (fun c1 => ?_) (fun c1 => ?_)
  · have H4 := H2 c1
    obtain ⟨s6, H7⟩ := H4
    refine Wp.iinc 3 3 [(0, .inr (.inr 0)), (1, .inl x1), (2, .inl x2), (3, .inl (x3 + 1)), (4, .inl x4)] d_S_playAll_117 rfl s6 (by decide) rfl ?_
    refine Wp.goto 6 d_S_playAll_120 (by decide) ?_
    refine Wp.pick [0, 1, 2, 3] [(0, .inr (.inr 0)), (1, .inl x1), (2, .inl x2), (3, .inl (x3 + 1))] rfl ?_
    exact H7
  · have H5 := H3 c1
    refine Wp.aload_n 0 0 d_S_playAll_20 rfl rfl ?_
    refine Wp.getP 35 d_S_playAll_21 fl_S_64 rfl rfl rfl ?_
    refine Wp.aload_n 0 0 d_S_playAll_24 rfl rfl ?_
    refine Wp.getP 32 d_S_playAll_25 fl_S_60 rfl rfl rfl ?_
    refine Wp.getP 33 d_S_playAll_28 fl_S_211 rfl rfl rfl ?_
    obtain ⟨e8, P9, hd10, ho11, H12⟩ := H5
    refine Wq.VV (st := []) [.inr (.inr 33)] d_S_playAll_31 k_Sand_take ml_S_199 rfl rfl rfl (fun h => by cases h) (Nat.le_of_ble_eq_true rfl) hd10 ho11 (fun m15 hp16 hw18 => ?_)
    have H13 := H12 m15 hp16 hw18
    refine Wp.aload_n 0 0 d_S_playAll_34 rfl rfl ?_
    refine Wp.getP 35 d_S_playAll_35 fl_S_64 rfl rfl rfl ?_
    refine Wp.iload_n 1 1 d_S_playAll_38 rfl rfl ?_
    refine Wp.iload_n 3 3 d_S_playAll_39 rfl rfl ?_
    obtain ⟨e19, P20, hd21, ho22, H23⟩ := H13
    refine Wq.VV (st := []) [.inl x1, .inl x3] d_S_playAll_40 k_Sand_put ml_S_256 rfl rfl rfl (fun h => by cases h) (Nat.le_of_ble_eq_true rfl) hd21 ho22 (fun m26 hp27 hw29 => ?_)
    have H24 := H23 m26 hp27 hw29
    refine Wp.aload_n 0 0 d_S_playAll_43 rfl rfl ?_
    refine Wp.getP 35 d_S_playAll_44 fl_S_64 rfl rfl rfl ?_
    refine Wp.iload_n 2 2 d_S_playAll_47 rfl rfl ?_
    refine Wp.iload 4 4 d_S_playAll_48 rfl ?_
    obtain ⟨e30, P31, hd32, ho33, H34⟩ := H24
    refine Wq.VV (st := []) [.inl x2, .inl x4] d_S_playAll_50 k_Sand_put ml_S_256 rfl rfl rfl (fun h => by cases h) (Nat.le_of_ble_eq_true rfl) hd32 ho33 (fun m37 hp38 hw40 => ?_)
    have H35 := H34 m37 hp38 hw40
    refine Wp.aload_n 0 0 d_S_playAll_53 rfl rfl ?_
    refine Wp.getP 35 d_S_playAll_54 fl_S_64 rfl rfl rfl ?_
    refine Wp.aload_n 0 0 d_S_playAll_57 rfl rfl ?_
    obtain ⟨b41, hb42, hB43, H44⟩ := H35
    refine Wp.getR b41 d_S_playAll_58 fl_S_27 rfl (Or.inl rfl) rfl hb42 ?_
    obtain ⟨e45, P46, hd47, ho48, H49⟩ := H44
    refine Wq.VV (st := []) [.inr (.inr b41)] d_S_playAll_61 k_Sand_calm ml_S_202 rfl rfl rfl (fun h => by cases h) (Nat.le_of_ble_eq_true rfl) hd47 ho48 (fun m52 hp53 hw55 => ?_)
    have H50 := H49 m52 hp53 hw55
    refine Wp.aload_n 0 0 d_S_playAll_64 rfl rfl ?_
    refine Wp.getP 69 d_S_playAll_65 fl_S_95 rfl rfl rfl ?_
    refine Wp.iload_n 3 3 d_S_playAll_68 rfl rfl ?_
    refine Wp.iload 4 4 d_S_playAll_69 rfl ?_
    refine Wp.iconst d_S_playAll_71 (by decide) ?_
    obtain ⟨e56, P57, hd58, ho59, H60⟩ := H50
    refine Wq.SI (st := [.inr (.inr 69)]) [.inl x3, .inl x4, .inl 0] d_S_playAll_72 k_S_gainAt ml_S_352 rfl  (fun h => by cases h) (Nat.le_of_ble_eq_true rfl) hd58 ho59 (fun z62 m63 hp64 hz65 hw66 => ?_)
    have H61 := H60 z62 m63 hp64 hz65 hw66
    refine Wp.aload_n 0 0 d_S_playAll_75 rfl rfl ?_
    refine Wp.getP 35 d_S_playAll_76 fl_S_64 rfl rfl rfl ?_
    refine Wp.getP 37 d_S_playAll_79 fl_S_244 rfl rfl rfl ?_
    refine Wp.iload_n 1 1 d_S_playAll_82 rfl rfl ?_
    obtain ⟨s67, H68⟩ := H61
    refine Wp.iald d_S_playAll_83 rfl (Or.inl rfl) s67.1 s67.2 ?_
    refine Wp.iload_n 3 3 d_S_playAll_84 rfl rfl ?_
    obtain ⟨s69, H70⟩ := H68
    refine Wp.isub d_S_playAll_85 s69 ?_
    obtain ⟨s100, H101⟩ := H70
    refine Wq.iast d_S_playAll_86 rfl s100.1 s100.2 (fun m71 hm72 => ?_)
    have H73 := H101 m71 hm72
    refine Wp.aload_n 0 0 d_S_playAll_87 rfl rfl ?_
    refine Wp.getP 69 d_S_playAll_88 fl_S_95 rfl rfl rfl ?_
    refine Wp.iload_n 3 3 d_S_playAll_91 rfl rfl ?_
    refine Wp.iload 4 4 d_S_playAll_92 rfl ?_
    refine Wp.iconst d_S_playAll_94 (by decide) ?_
    obtain ⟨e76, P77, hd78, ho79, H80⟩ := H73
    refine Wq.SI (st := [.inr (.inr 69)]) [.inl x3, .inl x4, .inl 1] d_S_playAll_95 k_S_gainAt ml_S_352 rfl  (fun h => by cases h) (Nat.le_of_ble_eq_true rfl) hd78 ho79 (fun z82 m83 hp84 hz85 hw86 => ?_)
    have H81 := H80 z82 m83 hp84 hz85 hw86
    refine Wp.aload_n 0 0 d_S_playAll_98 rfl rfl ?_
    refine Wp.getP 35 d_S_playAll_99 fl_S_64 rfl rfl rfl ?_
    refine Wp.getP 37 d_S_playAll_102 fl_S_244 rfl rfl rfl ?_
    refine Wp.iload_n 2 2 d_S_playAll_105 rfl rfl ?_
    obtain ⟨s87, H88⟩ := H81
    refine Wp.iald d_S_playAll_106 rfl (Or.inl rfl) s87.1 s87.2 ?_
    refine Wp.iload 4 4 d_S_playAll_107 rfl ?_
    obtain ⟨s89, H90⟩ := H88
    refine Wp.isub d_S_playAll_109 s89 ?_
    obtain ⟨s98, H99⟩ := H90
    refine Wq.iast d_S_playAll_110 rfl s98.1 s98.2 (fun m91 hm92 => ?_)
    have H93 := H99 m91 hm92
    obtain ⟨s96, H97⟩ := H93
    refine Wp.iinc 4 4 [(0, .inr (.inr 0)), (1, .inl x1), (2, .inl x2), (3, .inl x3), (4, .inl (x4 + 1))] d_S_playAll_111 rfl s96 (by decide) rfl ?_
    refine Wp.goto 14 d_S_playAll_114 (by decide) ?_
    exact H97
theorem d_S_gainAt_0 : decode Y_S_gainAt.2.1 0 = .ok (.iload_n 0, 1) := by decide +kernel
theorem d_S_gainAt_1 : decode Y_S_gainAt.2.1 1 = .ok (.iconst 4, 1) := by decide +kernel
theorem d_S_gainAt_2 : decode Y_S_gainAt.2.1 2 = .ok (.imul, 1) := by decide +kernel
theorem d_S_gainAt_3 : decode Y_S_gainAt.2.1 3 = .ok (.iload_n 1, 1) := by decide +kernel
theorem d_S_gainAt_4 : decode Y_S_gainAt.2.1 4 = .ok (.iadd, 1) := by decide +kernel
theorem d_S_gainAt_5 : decode Y_S_gainAt.2.1 5 = .ok (.iconst 2, 1) := by decide +kernel
theorem d_S_gainAt_6 : decode Y_S_gainAt.2.1 6 = .ok (.imul, 1) := by decide +kernel
theorem d_S_gainAt_7 : decode Y_S_gainAt.2.1 7 = .ok (.iload_n 2, 1) := by decide +kernel
theorem d_S_gainAt_8 : decode Y_S_gainAt.2.1 8 = .ok (.iadd, 1) := by decide +kernel
theorem d_S_gainAt_9 : decode Y_S_gainAt.2.1 9 = .ok (.ireturn, 1) := by decide +kernel
theorem e_S_gainAt {l : Launch} {G : GT} {d : Nat} {P : Int → MM → Prop} {m : MM} (x0 : Int) (x1 : Int) (x2 : Int)  (H : wfM m → inR x0 → inR x1 → inR x2 → (inR (x0 * 4)) ∧ ((inR ((x0 * 4) + x1)) ∧ ((inR (((x0 * 4) + x1) * 2)) ∧ ((inR ((((x0 * 4) + x1) * 2) + x2)) ∧ (P ((((x0 * 4) + x1) * 2) + x2) m))))) : CI l G Y_S_gainAt d [.inl x0, .inl x1, .inl x2] m P := by
  refine CI.of [(0, .inl x0), (1, .inl x1), (2, .inl x2)] k_S_gainAt.1 (Nat.le_of_ble_eq_true rfl) rfl (Wp.wf (fun hw _ hl hs => ?_))
  have H0 := H hw (hl _ (List.mem_of_getElem? (i := 0) rfl)) (hl _ (List.mem_of_getElem? (i := 1) rfl)) (hl _ (List.mem_of_getElem? (i := 2) rfl))
  refine Wp.iload_n 0 0 d_S_gainAt_0 rfl rfl ?_
  refine Wp.iconst d_S_gainAt_1 (by decide) ?_
  obtain ⟨s1, H2⟩ := H0
  refine Wp.imul d_S_gainAt_2 s1 ?_
  refine Wp.iload_n 1 1 d_S_gainAt_3 rfl rfl ?_
  obtain ⟨s3, H4⟩ := H2
  refine Wp.iadd d_S_gainAt_4 s3 ?_
  refine Wp.iconst d_S_gainAt_5 (by decide) ?_
  obtain ⟨s5, H6⟩ := H4
  refine Wp.imul d_S_gainAt_6 s5 ?_
  refine Wp.iload_n 2 2 d_S_gainAt_7 rfl rfl ?_
  obtain ⟨s7, H8⟩ := H6
  refine Wp.iadd d_S_gainAt_8 s7 ?_
  exact Wq.iret d_S_gainAt_9 rfl H8
theorem d_S_isRest_0 : decode Y_S_isRest.2.1 0 = .ok (.iconst 0, 1) := by decide +kernel
theorem d_S_isRest_1 : decode Y_S_isRest.2.1 1 = .ok (.istore_n 3, 1) := by decide +kernel
theorem d_S_isRest_2 : decode Y_S_isRest.2.1 2 = .ok (.iload_n 3, 1) := by decide +kernel
theorem d_S_isRest_3 : decode Y_S_isRest.2.1 3 = .ok (.iconst 4, 1) := by decide +kernel
theorem d_S_isRest_4 : decode Y_S_isRest.2.1 4 = .ok (.if_icmp .ge 61, 3) := by decide +kernel
theorem d_S_isRest_7 : decode Y_S_isRest.2.1 7 = .ok (.aload_n 0, 1) := by decide +kernel
theorem d_S_isRest_8 : decode Y_S_isRest.2.1 8 = .ok (.getfield 95, 3) := by decide +kernel
theorem d_S_isRest_11 : decode Y_S_isRest.2.1 11 = .ok (.iload_n 3, 1) := by decide +kernel
theorem d_S_isRest_12 : decode Y_S_isRest.2.1 12 = .ok (.iload_n 2, 1) := by decide +kernel
theorem d_S_isRest_13 : decode Y_S_isRest.2.1 13 = .ok (.iconst 0, 1) := by decide +kernel
theorem d_S_isRest_14 : decode Y_S_isRest.2.1 14 = .ok (.invokestatic 352, 3) := by decide +kernel
theorem d_S_isRest_17 : decode Y_S_isRest.2.1 17 = .ok (.iaload, 1) := by decide +kernel
theorem d_S_isRest_18 : decode Y_S_isRest.2.1 18 = .ok (.aload_n 0, 1) := by decide +kernel
theorem d_S_isRest_19 : decode Y_S_isRest.2.1 19 = .ok (.getfield 95, 3) := by decide +kernel
theorem d_S_isRest_22 : decode Y_S_isRest.2.1 22 = .ok (.iload_n 1, 1) := by decide +kernel
theorem d_S_isRest_23 : decode Y_S_isRest.2.1 23 = .ok (.iload_n 2, 1) := by decide +kernel
theorem d_S_isRest_24 : decode Y_S_isRest.2.1 24 = .ok (.iconst 0, 1) := by decide +kernel
theorem d_S_isRest_25 : decode Y_S_isRest.2.1 25 = .ok (.invokestatic 352, 3) := by decide +kernel
theorem d_S_isRest_28 : decode Y_S_isRest.2.1 28 = .ok (.iaload, 1) := by decide +kernel
theorem d_S_isRest_29 : decode Y_S_isRest.2.1 29 = .ok (.if_icmp .gt 28, 3) := by decide +kernel
theorem d_S_isRest_32 : decode Y_S_isRest.2.1 32 = .ok (.aload_n 0, 1) := by decide +kernel
theorem d_S_isRest_33 : decode Y_S_isRest.2.1 33 = .ok (.getfield 95, 3) := by decide +kernel
theorem d_S_isRest_36 : decode Y_S_isRest.2.1 36 = .ok (.iload_n 1, 1) := by decide +kernel
theorem d_S_isRest_37 : decode Y_S_isRest.2.1 37 = .ok (.iload_n 3, 1) := by decide +kernel
theorem d_S_isRest_38 : decode Y_S_isRest.2.1 38 = .ok (.iconst 1, 1) := by decide +kernel
theorem d_S_isRest_39 : decode Y_S_isRest.2.1 39 = .ok (.invokestatic 352, 3) := by decide +kernel
theorem d_S_isRest_42 : decode Y_S_isRest.2.1 42 = .ok (.iaload, 1) := by decide +kernel
theorem d_S_isRest_43 : decode Y_S_isRest.2.1 43 = .ok (.aload_n 0, 1) := by decide +kernel
theorem d_S_isRest_44 : decode Y_S_isRest.2.1 44 = .ok (.getfield 95, 3) := by decide +kernel
theorem d_S_isRest_47 : decode Y_S_isRest.2.1 47 = .ok (.iload_n 1, 1) := by decide +kernel
theorem d_S_isRest_48 : decode Y_S_isRest.2.1 48 = .ok (.iload_n 2, 1) := by decide +kernel
theorem d_S_isRest_49 : decode Y_S_isRest.2.1 49 = .ok (.iconst 1, 1) := by decide +kernel
theorem d_S_isRest_50 : decode Y_S_isRest.2.1 50 = .ok (.invokestatic 352, 3) := by decide +kernel
theorem d_S_isRest_53 : decode Y_S_isRest.2.1 53 = .ok (.iaload, 1) := by decide +kernel
theorem d_S_isRest_54 : decode Y_S_isRest.2.1 54 = .ok (.if_icmp .le 5, 3) := by decide +kernel
theorem d_S_isRest_57 : decode Y_S_isRest.2.1 57 = .ok (.iconst 0, 1) := by decide +kernel
theorem d_S_isRest_58 : decode Y_S_isRest.2.1 58 = .ok (.ireturn, 1) := by decide +kernel
theorem d_S_isRest_59 : decode Y_S_isRest.2.1 59 = .ok (.iinc 3 1, 3) := by decide +kernel
theorem d_S_isRest_62 : decode Y_S_isRest.2.1 62 = .ok (.goto (-60), 3) := by decide +kernel
theorem d_S_isRest_65 : decode Y_S_isRest.2.1 65 = .ok (.iconst 1, 1) := by decide +kernel
theorem d_S_isRest_66 : decode Y_S_isRest.2.1 66 = .ok (.ireturn, 1) := by decide +kernel
theorem e_S_isRest {l : Launch} {G : GT} {d : Nat} {P : Int → MM → Prop} {m : MM} (x1 : Int) (x2 : Int)  (H : wfM m → inR x1 → inR x2 → Wq l G false Y_S_isRest d (QI P) 2 [(0, .inr (.inr 0)), (1, .inl x1), (2, .inl x2), (3, .inl 0)] [] m) : CI l G Y_S_isRest d [.inr (.inr 0), .inl x1, .inl x2] m P := by
  refine CI.of [(0, .inr (.inr 0)), (1, .inl x1), (2, .inl x2)] k_S_isRest.1 (Nat.le_of_ble_eq_true rfl) rfl (Wp.wf (fun hw _ hl hs => ?_))
  have H0 := H hw (hl _ (List.mem_of_getElem? (i := 1) rfl)) (hl _ (List.mem_of_getElem? (i := 2) rfl))
  refine Wp.iconst d_S_isRest_0 (by decide) ?_
  refine Wp.istore_n 3 [(0, .inr (.inr 0)), (1, .inl x1), (2, .inl x2), (3, .inl 0)] d_S_isRest_1 rfl (by decide) rfl ?_
  exact H0
theorem s_S_isRest_2 {l : Launch} {G : GT} {d : Nat} {P : Int → MM → Prop} {m : MM} (x1 : Int) (x2 : Int) (x3 : Int)  (H : wfM m → inR x1 → inR x2 → inR x3 → (x3 ≥ 4 → (P 1 m)) ∧ (¬ (x3 ≥ 4) → (∃ (e6 : Nat) (P7 : Int → MM → Prop), e6 < d ∧ CI l G Y_S_gainAt e6 [.inl x3, .inl x2, .inl 0] m P7 ∧ (∀ z12 m13, P7 z12 m13 → inR z12 → wfM m13 → ((0 ≤ z12 ∧ z12 < (32 : Int)) ∧ (∃ (e19 : Nat) (P20 : Int → MM → Prop), e19 < d ∧ CI l G Y_S_gainAt e19 [.inl x1, .inl x2, .inl 0] m13 P20 ∧ (∀ z25 m26, P20 z25 m26 → inR z25 → wfM m26 → ((0 ≤ z25 ∧ z25 < (32 : Int)) ∧ (((m13 69 z12) > (m26 69 z25) → (P 0 m26)) ∧ (¬ ((m13 69 z12) > (m26 69 z25)) → (∃ (e37 : Nat) (P38 : Int → MM → Prop), e37 < d ∧ CI l G Y_S_gainAt e37 [.inl x1, .inl x3, .inl 1] m26 P38 ∧ (∀ z43 m44, P38 z43 m44 → inR z43 → wfM m44 → ((0 ≤ z43 ∧ z43 < (32 : Int)) ∧ (∃ (e50 : Nat) (P51 : Int → MM → Prop), e50 < d ∧ CI l G Y_S_gainAt e50 [.inl x1, .inl x2, .inl 1] m44 P51 ∧ (∀ z56 m57, P51 z56 m57 → inR z56 → wfM m57 → ((0 ≤ z56 ∧ z56 < (32 : Int)) ∧ (((m44 69 z43) ≤ (m57 69 z56) → ((inR (x3 + 1)) ∧ (Wq l G false Y_S_isRest d (QI P) 2 [(0, .inr (.inr 0)), (1, .inl x1), (2, .inl x2), (3, .inl (x3 + 1))] [] m57))) ∧ (¬ ((m44 69 z43) ≤ (m57 69 z56)) → (P 0 m57))))))))))))))))))) : Wq l G false Y_S_isRest d (QI P) 2 [(0, .inr (.inr 0)), (1, .inl x1), (2, .inl x2), (3, .inl x3)] [] m := by
  refine Wp.wf (fun hw _ hl hs => ?_)
  have H0 := H hw (hl _ (List.mem_of_getElem? (i := 1) rfl)) (hl _ (List.mem_of_getElem? (i := 2) rfl)) (hl _ (List.mem_of_getElem? (i := 3) rfl))
  refine Wp.iload_n 3 3 d_S_isRest_2 rfl rfl ?_
  refine Wp.iconst d_S_isRest_3 (by decide) ?_
  obtain ⟨H2, H3⟩ := H0
  refine Wp.icmp_ge 65 d_S_isRest_4 (by decide) (fun c1 => ?_) (fun c1 => ?_)
  · have H4 := H2 c1
    refine Wp.iconst d_S_isRest_65 (by decide) ?_
    exact Wq.zret d_S_isRest_66 rfl (by decide) H4
  · have H5 := H3 c1
    refine Wp.aload_n 0 0 d_S_isRest_7 rfl rfl ?_
    refine Wp.getP 69 d_S_isRest_8 fl_S_95 rfl rfl rfl ?_
    refine Wp.iload_n 3 3 d_S_isRest_11 rfl rfl ?_
    refine Wp.iload_n 2 2 d_S_isRest_12 rfl rfl ?_
    refine Wp.iconst d_S_isRest_13 (by decide) ?_
    obtain ⟨e6, P7, hd8, ho9, H10⟩ := H5
    refine Wq.SI (st := [.inr (.inr 69)]) [.inl x3, .inl x2, .inl 0] d_S_isRest_14 k_S_gainAt ml_S_352 rfl  (fun h => by cases h) (Nat.le_of_ble_eq_true rfl) hd8 ho9 (fun z12 m13 hp14 hz15 hw16 => ?_)
    have H11 := H10 z12 m13 hp14 hz15 hw16
    obtain ⟨s17, H18⟩ := H11
    refine Wp.iald d_S_isRest_17 rfl (Or.inl rfl) s17.1 s17.2 ?_
    refine Wp.aload_n 0 0 d_S_isRest_18 rfl rfl ?_
    refine Wp.getP 69 d_S_isRest_19 fl_S_95 rfl rfl rfl ?_
    refine Wp.iload_n 1 1 d_S_isRest_22 rfl rfl ?_
    refine Wp.iload_n 2 2 d_S_isRest_23 rfl rfl ?_
    refine Wp.iconst d_S_isRest_24 (by decide) ?_
    obtain ⟨e19, P20, hd21, ho22, H23⟩ := H18
    refine Wq.SI (st := [.inr (.inr 69), .inl (m13 69 z12)]) [.inl x1, .inl x2, .inl 0] d_S_isRest_25 k_S_gainAt ml_S_352 rfl  (fun h => by cases h) (Nat.le_of_ble_eq_true rfl) hd21 ho22 (fun z25 m26 hp27 hz28 hw29 => ?_)
    have H24 := H23 z25 m26 hp27 hz28 hw29
    obtain ⟨s30, H31⟩ := H24
    refine Wp.iald d_S_isRest_28 rfl (Or.inl rfl) s30.1 s30.2 ?_
    obtain ⟨H33, H34⟩ := H31
    refine Wp.icmp_gt 57 d_S_isRest_29 (by decide) (fun c32 => ?_) (fun c32 => ?_)
    · have H35 := H33 c32
      refine Wp.iconst d_S_isRest_57 (by decide) ?_
      exact Wq.zret d_S_isRest_58 rfl (by decide) H35
    · have H36 := H34 c32
      refine Wp.aload_n 0 0 d_S_isRest_32 rfl rfl ?_
      refine Wp.getP 69 d_S_isRest_33 fl_S_95 rfl rfl rfl ?_
      refine Wp.iload_n 1 1 d_S_isRest_36 rfl rfl ?_
      refine Wp.iload_n 3 3 d_S_isRest_37 rfl rfl ?_
      refine Wp.iconst d_S_isRest_38 (by decide) ?_
      obtain ⟨e37, P38, hd39, ho40, H41⟩ := H36
      refine Wq.SI (st := [.inr (.inr 69)]) [.inl x1, .inl x3, .inl 1] d_S_isRest_39 k_S_gainAt ml_S_352 rfl  (fun h => by cases h) (Nat.le_of_ble_eq_true rfl) hd39 ho40 (fun z43 m44 hp45 hz46 hw47 => ?_)
      have H42 := H41 z43 m44 hp45 hz46 hw47
      obtain ⟨s48, H49⟩ := H42
      refine Wp.iald d_S_isRest_42 rfl (Or.inl rfl) s48.1 s48.2 ?_
      refine Wp.aload_n 0 0 d_S_isRest_43 rfl rfl ?_
      refine Wp.getP 69 d_S_isRest_44 fl_S_95 rfl rfl rfl ?_
      refine Wp.iload_n 1 1 d_S_isRest_47 rfl rfl ?_
      refine Wp.iload_n 2 2 d_S_isRest_48 rfl rfl ?_
      refine Wp.iconst d_S_isRest_49 (by decide) ?_
      obtain ⟨e50, P51, hd52, ho53, H54⟩ := H49
      refine Wq.SI (st := [.inr (.inr 69), .inl (m44 69 z43)]) [.inl x1, .inl x2, .inl 1] d_S_isRest_50 k_S_gainAt ml_S_352 rfl  (fun h => by cases h) (Nat.le_of_ble_eq_true rfl) hd52 ho53 (fun z56 m57 hp58 hz59 hw60 => ?_)
      have H55 := H54 z56 m57 hp58 hz59 hw60
      obtain ⟨s61, H62⟩ := H55
      refine Wp.iald d_S_isRest_53 rfl (Or.inl rfl) s61.1 s61.2 ?_
      obtain ⟨H64, H65⟩ := H62
      refine Wp.icmp_le 59 d_S_isRest_54 (by decide) (fun c63 => ?_) (fun c63 => ?_)
      · have H66 := H64 c63
        obtain ⟨s68, H69⟩ := H66
        refine Wp.iinc 3 3 [(0, .inr (.inr 0)), (1, .inl x1), (2, .inl x2), (3, .inl (x3 + 1))] d_S_isRest_59 rfl s68 (by decide) rfl ?_
        refine Wp.goto 2 d_S_isRest_62 (by decide) ?_
        exact H69
      · have H67 := H65 c63
        refine Wp.iconst d_S_isRest_57 (by decide) ?_
        exact Wq.zret d_S_isRest_58 rfl (by decide) H67
theorem d_S_law_0 : decode Y_S_law.2.1 0 = .ok (.iload_n 1, 1) := by decide +kernel
theorem d_S_law_1 : decode Y_S_law.2.1 1 = .ok (.ifCond .lt 9, 3) := by decide +kernel
theorem d_S_law_4 : decode Y_S_law.2.1 4 = .ok (.iload_n 1, 1) := by decide +kernel
theorem d_S_law_5 : decode Y_S_law.2.1 5 = .ok (.bipush 20, 2) := by decide +kernel
theorem d_S_law_7 : decode Y_S_law.2.1 7 = .ok (.if_icmp .le 5, 3) := by decide +kernel
theorem d_S_law_10 : decode Y_S_law.2.1 10 = .ok (.iconst (-1), 1) := by decide +kernel
theorem d_S_law_11 : decode Y_S_law.2.1 11 = .ok (.ireturn, 1) := by decide +kernel
theorem d_S_law_12 : decode Y_S_law.2.1 12 = .ok (.aload_n 0, 1) := by decide +kernel
theorem d_S_law_13 : decode Y_S_law.2.1 13 = .ok (.getfield 60, 3) := by decide +kernel
theorem d_S_law_16 : decode Y_S_law.2.1 16 = .ok (.aload_n 0, 1) := by decide +kernel
theorem d_S_law_17 : decode Y_S_law.2.1 17 = .ok (.getfield 34, 3) := by decide +kernel
theorem d_S_law_20 : decode Y_S_law.2.1 20 = .ok (.invokevirtual 199, 3) := by decide +kernel
theorem d_S_law_23 : decode Y_S_law.2.1 23 = .ok (.iconst 0, 1) := by decide +kernel
theorem d_S_law_24 : decode Y_S_law.2.1 24 = .ok (.istore_n 2, 1) := by decide +kernel
theorem d_S_law_25 : decode Y_S_law.2.1 25 = .ok (.iload_n 2, 1) := by decide +kernel
theorem d_S_law_26 : decode Y_S_law.2.1 26 = .ok (.aload_n 0, 1) := by decide +kernel
theorem d_S_law_27 : decode Y_S_law.2.1 27 = .ok (.getfield 27, 3) := by decide +kernel
theorem d_S_law_30 : decode Y_S_law.2.1 30 = .ok (.getfield 119, 3) := by decide +kernel
theorem d_S_law_33 : decode Y_S_law.2.1 33 = .ok (.if_icmp .ge 18, 3) := by decide +kernel
theorem d_S_law_36 : decode Y_S_law.2.1 36 = .ok (.aload_n 0, 1) := by decide +kernel
theorem d_S_law_37 : decode Y_S_law.2.1 37 = .ok (.getfield 60, 3) := by decide +kernel
theorem d_S_law_40 : decode Y_S_law.2.1 40 = .ok (.iload_n 2, 1) := by decide +kernel
theorem d_S_law_41 : decode Y_S_law.2.1 41 = .ok (.iload_n 1, 1) := by decide +kernel
theorem d_S_law_42 : decode Y_S_law.2.1 42 = .ok (.invokevirtual 256, 3) := by decide +kernel
theorem d_S_law_45 : decode Y_S_law.2.1 45 = .ok (.iinc 2 1, 3) := by decide +kernel
theorem d_S_law_48 : decode Y_S_law.2.1 48 = .ok (.goto (-23), 3) := by decide +kernel
theorem d_S_law_51 : decode Y_S_law.2.1 51 = .ok (.aload_n 0, 1) := by decide +kernel
theorem d_S_law_52 : decode Y_S_law.2.1 52 = .ok (.getfield 60, 3) := by decide +kernel
theorem d_S_law_55 : decode Y_S_law.2.1 55 = .ok (.aload_n 0, 1) := by decide +kernel
theorem d_S_law_56 : decode Y_S_law.2.1 56 = .ok (.getfield 27, 3) := by decide +kernel
theorem d_S_law_59 : decode Y_S_law.2.1 59 = .ok (.invokevirtual 202, 3) := by decide +kernel
theorem d_S_law_62 : decode Y_S_law.2.1 62 = .ok (.aload_n 0, 1) := by decide +kernel
theorem d_S_law_63 : decode Y_S_law.2.1 63 = .ok (.getfield 60, 3) := by decide +kernel
theorem d_S_law_66 : decode Y_S_law.2.1 66 = .ok (.getfield 214, 3) := by decide +kernel
theorem d_S_law_69 : decode Y_S_law.2.1 69 = .ok (.ireturn, 1) := by decide +kernel
theorem e_S_law {l : Launch} {G : GT} {d : Nat} {P : Int → MM → Prop} {m : MM} (x1 : Int)  (H : wfM m → inR x1 → (x1 < 0 → (P (-1) m)) ∧ (¬ (x1 < 0) → ((x1 ≤ 20 → (∃ (e11 : Nat) (P12 : MM → Prop), e11 < d ∧ CV l G Y_Sand_take e11 [.inr (.inr 32), .inr (.inr 25)] m P12 ∧ (∀ m18, P12 m18 → wfM m18 → (Wq l G false Y_S_law d (QI P) 25 [(0, .inr (.inr 0)), (1, .inl x1), (2, .inl 0)] [] m18)))) ∧ (¬ (x1 ≤ 20) → (P (-1) m))))) : CI l G Y_S_law d [.inr (.inr 0), .inl x1] m P := by
  refine CI.of [(0, .inr (.inr 0)), (1, .inl x1)] k_S_law.1 (Nat.le_of_ble_eq_true rfl) rfl (Wp.wf (fun hw _ hl hs => ?_))
  have H0 := H hw (hl _ (List.mem_of_getElem? (i := 1) rfl))
  refine Wp.iload_n 1 1 d_S_law_0 rfl rfl ?_
  obtain ⟨H2, H3⟩ := H0
  refine Wp.if_lt 10 d_S_law_1 (by decide) (fun c1 => ?_) (fun c1 => ?_)
  · have H4 := H2 c1
    refine Wp.iconst d_S_law_10 (by decide) ?_
    exact Wq.iret d_S_law_11 rfl H4
  · have H5 := H3 c1
    refine Wp.iload_n 1 1 d_S_law_4 rfl rfl ?_
    refine Wp.bipush d_S_law_5 (by decide) (by decide) ?_
    obtain ⟨H7, H8⟩ := H5
    refine Wp.icmp_le 12 d_S_law_7 (by decide) (fun c6 => ?_) (fun c6 => ?_)
    · have H9 := H7 c6
      refine Wp.aload_n 0 0 d_S_law_12 rfl rfl ?_
      refine Wp.getP 32 d_S_law_13 fl_S_60 rfl rfl rfl ?_
      refine Wp.aload_n 0 0 d_S_law_16 rfl rfl ?_
      refine Wp.getP 25 d_S_law_17 fl_S_34 rfl rfl rfl ?_
      obtain ⟨e11, P12, hd13, ho14, H15⟩ := H9
      refine Wq.VV (st := []) [.inr (.inr 25)] d_S_law_20 k_Sand_take ml_S_199 rfl rfl rfl (fun h => by cases h) (Nat.le_of_ble_eq_true rfl) hd13 ho14 (fun m18 hp19 hw21 => ?_)
      have H16 := H15 m18 hp19 hw21
      refine Wp.iconst d_S_law_23 (by decide) ?_
      refine Wp.istore_n 2 [(0, .inr (.inr 0)), (1, .inl x1), (2, .inl 0)] d_S_law_24 rfl (by decide) rfl ?_
      exact H16
    · have H10 := H8 c6
      refine Wp.iconst d_S_law_10 (by decide) ?_
      exact Wq.iret d_S_law_11 rfl H10
theorem s_S_law_25 {l : Launch} {G : GT} {d : Nat} {P : Int → MM → Prop} {m : MM} (x1 : Int) (x2 : Int)  (H : wfM m → inR x1 → inR x2 → ∃ b1 : Nat, m 0 5 = b1 ∧ isB b1 ∧ ((x2 ≥ (m b1 0) → (∃ b10 : Nat, m 0 5 = b10 ∧ isB b10 ∧ (∃ (e14 : Nat) (P15 : MM → Prop), e14 < d ∧ CV l G Y_Sand_calm e14 [.inr (.inr 32), .inr (.inr b10)] m P15 ∧ (∀ m21, P15 m21 → wfM m21 → (P (m21 32 3) m21))))) ∧ (¬ (x2 ≥ (m b1 0)) → (∃ (e25 : Nat) (P26 : MM → Prop), e25 < d ∧ CV l G Y_Sand_put e25 [.inr (.inr 32), .inl x2, .inl x1] m P26 ∧ (∀ m32, P26 m32 → wfM m32 → ((inR (x2 + 1)) ∧ (Wq l G false Y_S_law d (QI P) 25 [(0, .inr (.inr 0)), (1, .inl x1), (2, .inl (x2 + 1))] [] m32))))))) : Wq l G false Y_S_law d (QI P) 25 [(0, .inr (.inr 0)), (1, .inl x1), (2, .inl x2)] [] m := by
  refine Wp.wf (fun hw _ hl hs => ?_)
  have H0 := H hw (hl _ (List.mem_of_getElem? (i := 1) rfl)) (hl _ (List.mem_of_getElem? (i := 2) rfl))
  refine Wp.iload_n 2 2 d_S_law_25 rfl rfl ?_
  refine Wp.aload_n 0 0 d_S_law_26 rfl rfl ?_
  obtain ⟨b1, hb2, hB3, H4⟩ := H0
  refine Wp.getR b1 d_S_law_27 fl_S_27 rfl (Or.inl rfl) rfl hb2 ?_
  refine Wq.getI 0 rfl d_S_law_30 fl_S_119 (isB_lay hB3) (Or.inl rfl) ?_
  obtain ⟨H6, H7⟩ := H4
  refine Wp.icmp_ge 51 d_S_law_33 (by decide) (fun c5 => ?_) (fun c5 => ?_)
  · have H8 := H6 c5
    refine Wp.aload_n 0 0 d_S_law_51 rfl rfl ?_
    refine Wp.getP 32 d_S_law_52 fl_S_60 rfl rfl rfl ?_
    refine Wp.aload_n 0 0 d_S_law_55 rfl rfl ?_
    obtain ⟨b10, hb11, hB12, H13⟩ := H8
    refine Wp.getR b10 d_S_law_56 fl_S_27 rfl (Or.inl rfl) rfl hb11 ?_
    obtain ⟨e14, P15, hd16, ho17, H18⟩ := H13
    refine Wq.VV (st := []) [.inr (.inr b10)] d_S_law_59 k_Sand_calm ml_S_202 rfl rfl rfl (fun h => by cases h) (Nat.le_of_ble_eq_true rfl) hd16 ho17 (fun m21 hp22 hw24 => ?_)
    have H19 := H18 m21 hp22 hw24
    refine Wp.aload_n 0 0 d_S_law_62 rfl rfl ?_
    refine Wp.getP 32 d_S_law_63 fl_S_60 rfl rfl rfl ?_
    refine Wq.getI 3 rfl d_S_law_66 fl_S_214 rfl (Or.inl rfl) ?_
    exact Wq.iret d_S_law_69 rfl H19
  · have H9 := H7 c5
    refine Wp.aload_n 0 0 d_S_law_36 rfl rfl ?_
    refine Wp.getP 32 d_S_law_37 fl_S_60 rfl rfl rfl ?_
    refine Wp.iload_n 2 2 d_S_law_40 rfl rfl ?_
    refine Wp.iload_n 1 1 d_S_law_41 rfl rfl ?_
    obtain ⟨e25, P26, hd27, ho28, H29⟩ := H9
    refine Wq.VV (st := []) [.inl x2, .inl x1] d_S_law_42 k_Sand_put ml_S_256 rfl rfl rfl (fun h => by cases h) (Nat.le_of_ble_eq_true rfl) hd27 ho28 (fun m32 hp33 hw35 => ?_)
    have H30 := H29 m32 hp33 hw35
    obtain ⟨s36, H37⟩ := H30
    refine Wp.iinc 2 2 [(0, .inr (.inr 0)), (1, .inl x1), (2, .inl (x2 + 1))] d_S_law_45 rfl s36 (by decide) rfl ?_
    refine Wp.goto 25 d_S_law_48 (by decide) ?_
    exact H37
theorem d_S_odds_0 : decode Y_S_odds.2.1 0 = .ok (.iload_n 1, 1) := by decide +kernel
theorem d_S_odds_1 : decode Y_S_odds.2.1 1 = .ok (.ifCond .lt 17, 3) := by decide +kernel
theorem d_S_odds_4 : decode Y_S_odds.2.1 4 = .ok (.iload_n 1, 1) := by decide +kernel
theorem d_S_odds_5 : decode Y_S_odds.2.1 5 = .ok (.iconst 4, 1) := by decide +kernel
theorem d_S_odds_6 : decode Y_S_odds.2.1 6 = .ok (.if_icmp .gt 12, 3) := by decide +kernel
theorem d_S_odds_9 : decode Y_S_odds.2.1 9 = .ok (.iload_n 2, 1) := by decide +kernel
theorem d_S_odds_10 : decode Y_S_odds.2.1 10 = .ok (.ifCond .lt 8, 3) := by decide +kernel
theorem d_S_odds_13 : decode Y_S_odds.2.1 13 = .ok (.iload_n 2, 1) := by decide +kernel
theorem d_S_odds_14 : decode Y_S_odds.2.1 14 = .ok (.iconst 1, 1) := by decide +kernel
theorem d_S_odds_15 : decode Y_S_odds.2.1 15 = .ok (.if_icmp .le 5, 3) := by decide +kernel
theorem d_S_odds_18 : decode Y_S_odds.2.1 18 = .ok (.iconst (-1), 1) := by decide +kernel
theorem d_S_odds_19 : decode Y_S_odds.2.1 19 = .ok (.ireturn, 1) := by decide +kernel
theorem d_S_odds_20 : decode Y_S_odds.2.1 20 = .ok (.lconst 1, 1) := by decide +kernel
theorem d_S_odds_21 : decode Y_S_odds.2.1 21 = .ok (.lstore_n 3, 1) := by decide +kernel
theorem d_S_odds_22 : decode Y_S_odds.2.1 22 = .ok (.lconst 1, 1) := by decide +kernel
theorem d_S_odds_23 : decode Y_S_odds.2.1 23 = .ok (.lstore 5, 2) := by decide +kernel
theorem d_S_odds_25 : decode Y_S_odds.2.1 25 = .ok (.iconst 0, 1) := by decide +kernel
theorem d_S_odds_26 : decode Y_S_odds.2.1 26 = .ok (.istore 7, 2) := by decide +kernel
theorem d_S_odds_28 : decode Y_S_odds.2.1 28 = .ok (.iload 7, 2) := by decide +kernel
theorem d_S_odds_30 : decode Y_S_odds.2.1 30 = .ok (.iload_n 1, 1) := by decide +kernel
theorem d_S_odds_31 : decode Y_S_odds.2.1 31 = .ok (.if_icmp .ge 31, 3) := by decide +kernel
theorem d_S_odds_34 : decode Y_S_odds.2.1 34 = .ok (.lload_n 3, 1) := by decide +kernel
theorem d_S_odds_35 : decode Y_S_odds.2.1 35 = .ok (.bipush 100, 2) := by decide +kernel
theorem d_S_odds_37 : decode Y_S_odds.2.1 37 = .ok (.aload_n 0, 1) := by decide +kernel
theorem d_S_odds_38 : decode Y_S_odds.2.1 38 = .ok (.getfield 27, 3) := by decide +kernel
theorem d_S_odds_41 : decode Y_S_odds.2.1 41 = .ok (.getfield 192, 3) := by decide +kernel
theorem d_S_odds_44 : decode Y_S_odds.2.1 44 = .ok (.isub, 1) := by decide +kernel
theorem d_S_odds_45 : decode Y_S_odds.2.1 45 = .ok (.i2l, 1) := by decide +kernel
theorem d_S_odds_46 : decode Y_S_odds.2.1 46 = .ok (.lmul, 1) := by decide +kernel
theorem d_S_odds_47 : decode Y_S_odds.2.1 47 = .ok (.lstore_n 3, 1) := by decide +kernel
theorem d_S_odds_48 : decode Y_S_odds.2.1 48 = .ok (.lload 5, 2) := by decide +kernel
theorem d_S_odds_50 : decode Y_S_odds.2.1 50 = .ok (.ldc2_w 356, 3) := by decide +kernel
theorem d_S_odds_53 : decode Y_S_odds.2.1 53 = .ok (.lmul, 1) := by decide +kernel
theorem d_S_odds_54 : decode Y_S_odds.2.1 54 = .ok (.lstore 5, 2) := by decide +kernel
theorem d_S_odds_56 : decode Y_S_odds.2.1 56 = .ok (.iinc 7 1, 3) := by decide +kernel
theorem d_S_odds_59 : decode Y_S_odds.2.1 59 = .ok (.goto (-31), 3) := by decide +kernel
theorem d_S_odds_62 : decode Y_S_odds.2.1 62 = .ok (.lload_n 3, 1) := by decide +kernel
theorem d_S_odds_63 : decode Y_S_odds.2.1 63 = .ok (.lload 5, 2) := by decide +kernel
theorem d_S_odds_65 : decode Y_S_odds.2.1 65 = .ok (.iload_n 2, 1) := by decide +kernel
theorem d_S_odds_66 : decode Y_S_odds.2.1 66 = .ok (.invokestatic 324, 3) := by decide +kernel
theorem d_S_odds_69 : decode Y_S_odds.2.1 69 = .ok (.ireturn, 1) := by decide +kernel
theorem e_S_odds {l : Launch} {G : GT} {d : Nat} {P : Int → MM → Prop} {m : MM} (x1 : Int) (x2 : Int)  (H : wfM m → inR x1 → inR x2 → (x1 < 0 → (P (-1) m)) ∧ (¬ (x1 < 0) → ((x1 > 4 → (P (-1) m)) ∧ (¬ (x1 > 4) → ((x2 < 0 → (P (-1) m)) ∧ (¬ (x2 < 0) → ((x2 ≤ 1 → (Wq l G false Y_S_odds d (QI P) 28 [(0, .inr (.inr 0)), (1, .inl x1), (2, .inl x2), (3, .inr (.inl 1)), (5, .inr (.inl 1)), (7, .inl 0)] [] m)) ∧ (¬ (x2 ≤ 1) → (P (-1) m))))))))) : CI l G Y_S_odds d [.inr (.inr 0), .inl x1, .inl x2] m P := by
  refine CI.of [(0, .inr (.inr 0)), (1, .inl x1), (2, .inl x2)] k_S_odds.1 (Nat.le_of_ble_eq_true rfl) rfl (Wp.wf (fun hw _ hl hs => ?_))
  have H0 := H hw (hl _ (List.mem_of_getElem? (i := 1) rfl)) (hl _ (List.mem_of_getElem? (i := 2) rfl))
  refine Wp.iload_n 1 1 d_S_odds_0 rfl rfl ?_
  obtain ⟨H2, H3⟩ := H0
  refine Wp.if_lt 18 d_S_odds_1 (by decide) (fun c1 => ?_) (fun c1 => ?_)
  · have H4 := H2 c1
    refine Wp.iconst d_S_odds_18 (by decide) ?_
    exact Wq.iret d_S_odds_19 rfl H4
  · have H5 := H3 c1
    refine Wp.iload_n 1 1 d_S_odds_4 rfl rfl ?_
    refine Wp.iconst d_S_odds_5 (by decide) ?_
    obtain ⟨H7, H8⟩ := H5
    refine Wp.icmp_gt 18 d_S_odds_6 (by decide) (fun c6 => ?_) (fun c6 => ?_)
    · have H9 := H7 c6
      refine Wp.iconst d_S_odds_18 (by decide) ?_
      exact Wq.iret d_S_odds_19 rfl H9
    · have H10 := H8 c6
      refine Wp.iload_n 2 2 d_S_odds_9 rfl rfl ?_
      obtain ⟨H12, H13⟩ := H10
      refine Wp.if_lt 18 d_S_odds_10 (by decide) (fun c11 => ?_) (fun c11 => ?_)
      · have H14 := H12 c11
        refine Wp.iconst d_S_odds_18 (by decide) ?_
        exact Wq.iret d_S_odds_19 rfl H14
      · have H15 := H13 c11
        refine Wp.iload_n 2 2 d_S_odds_13 rfl rfl ?_
        refine Wp.iconst d_S_odds_14 (by decide) ?_
        obtain ⟨H17, H18⟩ := H15
        refine Wp.icmp_le 20 d_S_odds_15 (by decide) (fun c16 => ?_) (fun c16 => ?_)
        · have H19 := H17 c16
          refine Wp.lconst (x := 1) d_S_odds_20 (by decide) (by decide) ?_
          refine Wp.lstore_n 3 [(0, .inr (.inr 0)), (1, .inl x1), (2, .inl x2), (3, .inr (.inl 1))] d_S_odds_21 rfl (by decide) rfl ?_
          refine Wp.lconst (x := 1) d_S_odds_22 (by decide) (by decide) ?_
          refine Wp.lstore 5 [(0, .inr (.inr 0)), (1, .inl x1), (2, .inl x2), (3, .inr (.inl 1)), (5, .inr (.inl 1))] d_S_odds_23 (by decide) rfl ?_
          refine Wp.iconst d_S_odds_25 (by decide) ?_
          refine Wp.istore 7 [(0, .inr (.inr 0)), (1, .inl x1), (2, .inl x2), (3, .inr (.inl 1)), (5, .inr (.inl 1)), (7, .inl 0)] d_S_odds_26 (by decide) rfl ?_
          exact H19
        · have H20 := H18 c16
          refine Wp.iconst d_S_odds_18 (by decide) ?_
          exact Wq.iret d_S_odds_19 rfl H20
theorem s_S_odds_28 {l : Launch} {G : GT} {d : Nat} {P : Int → MM → Prop} {m : MM} (x1 : Int) (x2 : Int) (x3 : Int) (x5 : Int) (x7 : Int)  (H : wfM m → inR x1 → inR x2 → inL x3 → inL x5 → inR x7 → (x7 ≥ x1 → (∃ (e6 : Nat) (P7 : Int → MM → Prop), e6 < d ∧ CI l G Y_S_part e6 [.inr (.inl x3), .inr (.inl x5), .inl x2] m P7 ∧ (∀ z12 m13, P7 z12 m13 → inR z12 → wfM m13 → (P z12 m13)))) ∧ (¬ (x7 ≥ x1) → (∃ b17 : Nat, m 0 5 = b17 ∧ isB b17 ∧ ((inR (100 - (m b17 2))) ∧ ((inL (x3 * (100 - (m b17 2)))) ∧ ((inL (x5 * 100)) ∧ ((inR (x7 + 1)) ∧ (Wq l G false Y_S_odds d (QI P) 28 [(0, .inr (.inr 0)), (1, .inl x1), (2, .inl x2), (3, .inr (.inl (x3 * (100 - (m b17 2))))), (5, .inr (.inl (x5 * 100))), (7, .inl (x7 + 1))] [] m)))))))) : Wq l G false Y_S_odds d (QI P) 28 [(0, .inr (.inr 0)), (1, .inl x1), (2, .inl x2), (3, .inr (.inl x3)), (5, .inr (.inl x5)), (7, .inl x7)] [] m := by
  refine Wp.wf (fun hw _ hl hs => ?_)
  have H0 := H hw (hl _ (List.mem_of_getElem? (i := 1) rfl)) (hl _ (List.mem_of_getElem? (i := 2) rfl)) (hl _ (List.mem_of_getElem? (i := 3) rfl)) (hl _ (List.mem_of_getElem? (i := 4) rfl)) (hl _ (List.mem_of_getElem? (i := 5) rfl))
  refine Wp.iload 5 7 d_S_odds_28 rfl ?_
  refine Wp.iload_n 1 1 d_S_odds_30 rfl rfl ?_
  obtain ⟨H2, H3⟩ := H0
  refine Wp.icmp_ge 62 d_S_odds_31 (by decide) (fun c1 => ?_) (fun c1 => ?_)
  · have H4 := H2 c1
    refine Wp.lload_n 3 3 d_S_odds_62 rfl rfl ?_
    refine Wp.lload 4 5 d_S_odds_63 rfl ?_
    refine Wp.iload_n 2 2 d_S_odds_65 rfl rfl ?_
    obtain ⟨e6, P7, hd8, ho9, H10⟩ := H4
    refine Wq.SI (st := []) [.inr (.inl x3), .inr (.inl x5), .inl x2] d_S_odds_66 k_S_part ml_S_324 rfl  (fun h => by cases h) (Nat.le_of_ble_eq_true rfl) hd8 ho9 (fun z12 m13 hp14 hz15 hw16 => ?_)
    have H11 := H10 z12 m13 hp14 hz15 hw16
    exact Wq.iret d_S_odds_69 rfl H11
  · have H5 := H3 c1
    refine Wp.lload_n 3 3 d_S_odds_34 rfl rfl ?_
    refine Wp.bipush d_S_odds_35 (by decide) (by decide) ?_
    refine Wp.aload_n 0 0 d_S_odds_37 rfl rfl ?_
    obtain ⟨b17, hb18, hB19, H20⟩ := H5
    refine Wp.getR b17 d_S_odds_38 fl_S_27 rfl (Or.inl rfl) rfl hb18 ?_
    refine Wq.getI 2 rfl d_S_odds_41 fl_S_192 (isB_lay hB19) (Or.inl rfl) ?_
    obtain ⟨s21, H22⟩ := H20
    refine Wp.isub d_S_odds_44 s21 ?_
    refine Wp.i2l d_S_odds_45 ?_
    obtain ⟨s23, H24⟩ := H22
    refine Wq.lmul d_S_odds_46 s23 ?_
    refine Wp.lstore_n 3 [(0, .inr (.inr 0)), (1, .inl x1), (2, .inl x2), (3, .inr (.inl (x3 * (100 - (m b17 2))))), (5, .inr (.inl x5)), (7, .inl x7)] d_S_odds_47 rfl (by decide) rfl ?_
    refine Wp.lload 4 5 d_S_odds_48 rfl ?_
    refine Wp.ldc2 (z := 100) d_S_odds_50 kl_S_356 (by decide) (by decide) ?_
    obtain ⟨s25, H26⟩ := H24
    refine Wq.lmul d_S_odds_53 s25 ?_
    refine Wp.lstore 5 [(0, .inr (.inr 0)), (1, .inl x1), (2, .inl x2), (3, .inr (.inl (x3 * (100 - (m b17 2))))), (5, .inr (.inl (x5 * 100))), (7, .inl x7)] d_S_odds_54 (by decide) rfl ?_
    obtain ⟨s27, H28⟩ := H26
    refine Wp.iinc 5 7 [(0, .inr (.inr 0)), (1, .inl x1), (2, .inl x2), (3, .inr (.inl (x3 * (100 - (m b17 2))))), (5, .inr (.inl (x5 * 100))), (7, .inl (x7 + 1))] d_S_odds_56 rfl s27 (by decide) rfl ?_
    refine Wp.goto 28 d_S_odds_59 (by decide) ?_
    exact H28
theorem d_S_lies_0 : decode Y_S_lies.2.1 0 = .ok (.iload_n 1, 1) := by decide +kernel
theorem d_S_lies_1 : decode Y_S_lies.2.1 1 = .ok (.ifCond .lt 26, 3) := by decide +kernel
theorem d_S_lies_4 : decode Y_S_lies.2.1 4 = .ok (.iload_n 1, 1) := by decide +kernel
theorem d_S_lies_5 : decode Y_S_lies.2.1 5 = .ok (.aload_n 0, 1) := by decide +kernel
theorem d_S_lies_6 : decode Y_S_lies.2.1 6 = .ok (.getfield 91, 3) := by decide +kernel
theorem d_S_lies_9 : decode Y_S_lies.2.1 9 = .ok (.getfield 358, 3) := by decide +kernel
theorem d_S_lies_12 : decode Y_S_lies.2.1 12 = .ok (.if_icmp .ge 15, 3) := by decide +kernel
theorem d_S_lies_15 : decode Y_S_lies.2.1 15 = .ok (.aload_n 0, 1) := by decide +kernel
theorem d_S_lies_16 : decode Y_S_lies.2.1 16 = .ok (.getfield 91, 3) := by decide +kernel
theorem d_S_lies_19 : decode Y_S_lies.2.1 19 = .ok (.getfield 361, 3) := by decide +kernel
theorem d_S_lies_22 : decode Y_S_lies.2.1 22 = .ok (.iload_n 1, 1) := by decide +kernel
theorem d_S_lies_23 : decode Y_S_lies.2.1 23 = .ok (.iaload, 1) := by decide +kernel
theorem d_S_lies_24 : decode Y_S_lies.2.1 24 = .ok (.goto 5, 3) := by decide +kernel
theorem d_S_lies_27 : decode Y_S_lies.2.1 27 = .ok (.bipush (-2), 2) := by decide +kernel
theorem d_S_lies_29 : decode Y_S_lies.2.1 29 = .ok (.ireturn, 1) := by decide +kernel
theorem e_S_lies {l : Launch} {G : GT} {d : Nat} {P : Int → MM → Prop} {m : MM} (x1 : Int)  (H : wfM m → inR x1 → (x1 < 0 → (P (-2) m)) ∧ (¬ (x1 < 0) → ((x1 ≥ (m 67 1) → (P (-2) m)) ∧ (¬ (x1 ≥ (m 67 1)) → ((0 ≤ x1 ∧ x1 < (60 : Int)) ∧ (P (m 68 x1) m)))))) : CI l G Y_S_lies d [.inr (.inr 0), .inl x1] m P := by
  refine CI.of [(0, .inr (.inr 0)), (1, .inl x1)] k_S_lies.1 (Nat.le_of_ble_eq_true rfl) rfl (Wp.wf (fun hw _ hl hs => ?_))
  have H0 := H hw (hl _ (List.mem_of_getElem? (i := 1) rfl))
  refine Wp.iload_n 1 1 d_S_lies_0 rfl rfl ?_
  obtain ⟨H2, H3⟩ := H0
  refine Wp.if_lt 27 d_S_lies_1 (by decide) (fun c1 => ?_) (fun c1 => ?_)
  · have H4 := H2 c1
    refine Wp.bipush d_S_lies_27 (by decide) (by decide) ?_
    exact Wq.iret d_S_lies_29 rfl H4
  · have H5 := H3 c1
    refine Wp.iload_n 1 1 d_S_lies_4 rfl rfl ?_
    refine Wp.aload_n 0 0 d_S_lies_5 rfl rfl ?_
    refine Wp.getP 67 d_S_lies_6 fl_S_91 rfl rfl rfl ?_
    refine Wq.getI 1 rfl d_S_lies_9 fl_S_358 rfl (Or.inl rfl) ?_
    obtain ⟨H7, H8⟩ := H5
    refine Wp.icmp_ge 27 d_S_lies_12 (by decide) (fun c6 => ?_) (fun c6 => ?_)
    · have H9 := H7 c6
      refine Wp.bipush d_S_lies_27 (by decide) (by decide) ?_
      exact Wq.iret d_S_lies_29 rfl H9
    · have H10 := H8 c6
      refine Wp.aload_n 0 0 d_S_lies_15 rfl rfl ?_
      refine Wp.getP 67 d_S_lies_16 fl_S_91 rfl rfl rfl ?_
      refine Wp.getP 68 d_S_lies_19 fl_S_361 rfl rfl rfl ?_
      refine Wp.iload_n 1 1 d_S_lies_22 rfl rfl ?_
      obtain ⟨s11, H12⟩ := H10
      refine Wp.iald d_S_lies_23 rfl (Or.inl rfl) s11.1 s11.2 ?_
      refine Wp.goto 29 d_S_lies_24 (by decide) ?_
      exact Wq.iret d_S_lies_29 rfl H12
theorem d_S_seen_0 : decode Y_S_seen.2.1 0 = .ok (.aload_n 0, 1) := by decide +kernel
theorem d_S_seen_1 : decode Y_S_seen.2.1 1 = .ok (.getfield 27, 3) := by decide +kernel
theorem d_S_seen_4 : decode Y_S_seen.2.1 4 = .ok (.iload_n 1, 1) := by decide +kernel
theorem d_S_seen_5 : decode Y_S_seen.2.1 5 = .ok (.invokevirtual 142, 3) := by decide +kernel
theorem d_S_seen_8 : decode Y_S_seen.2.1 8 = .ok (.ifCond .eq 13, 3) := by decide +kernel
theorem d_S_seen_11 : decode Y_S_seen.2.1 11 = .ok (.iload_n 2, 1) := by decide +kernel
theorem d_S_seen_12 : decode Y_S_seen.2.1 12 = .ok (.ifCond .lt 9, 3) := by decide +kernel
theorem d_S_seen_15 : decode Y_S_seen.2.1 15 = .ok (.iload_n 2, 1) := by decide +kernel
theorem d_S_seen_16 : decode Y_S_seen.2.1 16 = .ok (.bipush 99, 2) := by decide +kernel
theorem d_S_seen_18 : decode Y_S_seen.2.1 18 = .ok (.if_icmp .le 5, 3) := by decide +kernel
theorem d_S_seen_21 : decode Y_S_seen.2.1 21 = .ok (.iconst (-1), 1) := by decide +kernel
theorem d_S_seen_22 : decode Y_S_seen.2.1 22 = .ok (.ireturn, 1) := by decide +kernel
theorem d_S_seen_23 : decode Y_S_seen.2.1 23 = .ok (.aload_n 0, 1) := by decide +kernel
theorem d_S_seen_24 : decode Y_S_seen.2.1 24 = .ok (.getfield 84, 3) := by decide +kernel
theorem d_S_seen_27 : decode Y_S_seen.2.1 27 = .ok (.iload_n 1, 1) := by decide +kernel
theorem d_S_seen_28 : decode Y_S_seen.2.1 28 = .ok (.iload_n 2, 1) := by decide +kernel
theorem d_S_seen_29 : decode Y_S_seen.2.1 29 = .ok (.iload_n 3, 1) := by decide +kernel
theorem d_S_seen_30 : decode Y_S_seen.2.1 30 = .ok (.invokevirtual 364, 3) := by decide +kernel
theorem d_S_seen_33 : decode Y_S_seen.2.1 33 = .ok (.ireturn, 1) := by decide +kernel
theorem e_S_seen {l : Launch} {G : GT} {d : Nat} {P : Int → MM → Prop} {m : MM} (x1 : Int) (x2 : Int) (x3 : Int)  (H : wfM m → inR x1 → inR x2 → inR x3 → ∃ b1 : Nat, m 0 5 = b1 ∧ isB b1 ∧ (∃ (e5 : Nat) (P6 : Int → MM → Prop), e5 < d ∧ CI l G Y_Board_has e5 [.inr (.inr b1), .inl x1] m P6 ∧ (∀ z11 m12, P6 z11 m12 → inR z11 → wfM m12 → ((z11 = 0 → (P (-1) m12)) ∧ (¬ (z11 = 0) → ((x2 < 0 → (P (-1) m12)) ∧ (¬ (x2 < 0) → ((x2 ≤ 99 → (∃ (e31 : Nat) (P32 : Int → MM → Prop), e31 < d ∧ CI l G Y_Sights_tell e31 [.inr (.inr 55), .inl x1, .inl x2, .inl x3] m12 P32 ∧ (∀ z37 m38, P32 z37 m38 → inR z37 → wfM m38 → (P z37 m38)))) ∧ (¬ (x2 ≤ 99) → (P (-1) m12)))))))))) : CI l G Y_S_seen d [.inr (.inr 0), .inl x1, .inl x2, .inl x3] m P := by
  refine CI.of [(0, .inr (.inr 0)), (1, .inl x1), (2, .inl x2), (3, .inl x3)] k_S_seen.1 (Nat.le_of_ble_eq_true rfl) rfl (Wp.wf (fun hw _ hl hs => ?_))
  have H0 := H hw (hl _ (List.mem_of_getElem? (i := 1) rfl)) (hl _ (List.mem_of_getElem? (i := 2) rfl)) (hl _ (List.mem_of_getElem? (i := 3) rfl))
  refine Wp.aload_n 0 0 d_S_seen_0 rfl rfl ?_
  obtain ⟨b1, hb2, hB3, H4⟩ := H0
  refine Wp.getR b1 d_S_seen_1 fl_S_27 rfl (Or.inl rfl) rfl hb2 ?_
  refine Wp.iload_n 1 1 d_S_seen_4 rfl rfl ?_
  obtain ⟨e5, P6, hd7, ho8, H9⟩ := H4
  refine Wq.VI (st := []) [.inl x1] d_S_seen_5 k_Board_has ml_S_142 rfl (isB_lay hB3) rfl (fun h => by cases h) (Nat.le_of_ble_eq_true rfl) hd7 ho8 (fun z11 m12 hp13 hz14 hw15 => ?_)
  have H10 := H9 z11 m12 hp13 hz14 hw15
  obtain ⟨H17, H18⟩ := H10
  refine Wp.if_eq 21 d_S_seen_8 (by decide) (fun c16 => ?_) (fun c16 => ?_)
  · have H19 := H17 c16
    refine Wp.iconst d_S_seen_21 (by decide) ?_
    exact Wq.iret d_S_seen_22 rfl H19
  · have H20 := H18 c16
    refine Wp.iload_n 2 2 d_S_seen_11 rfl rfl ?_
    obtain ⟨H22, H23⟩ := H20
    refine Wp.if_lt 21 d_S_seen_12 (by decide) (fun c21 => ?_) (fun c21 => ?_)
    · have H24 := H22 c21
      refine Wp.iconst d_S_seen_21 (by decide) ?_
      exact Wq.iret d_S_seen_22 rfl H24
    · have H25 := H23 c21
      refine Wp.iload_n 2 2 d_S_seen_15 rfl rfl ?_
      refine Wp.bipush d_S_seen_16 (by decide) (by decide) ?_
      obtain ⟨H27, H28⟩ := H25
      refine Wp.icmp_le 23 d_S_seen_18 (by decide) (fun c26 => ?_) (fun c26 => ?_)
      · have H29 := H27 c26
        refine Wp.aload_n 0 0 d_S_seen_23 rfl rfl ?_
        refine Wp.getP 55 d_S_seen_24 fl_S_84 rfl rfl rfl ?_
        refine Wp.iload_n 1 1 d_S_seen_27 rfl rfl ?_
        refine Wp.iload_n 2 2 d_S_seen_28 rfl rfl ?_
        refine Wp.iload_n 3 3 d_S_seen_29 rfl rfl ?_
        obtain ⟨e31, P32, hd33, ho34, H35⟩ := H29
        refine Wq.VI (st := []) [.inl x1, .inl x2, .inl x3] d_S_seen_30 k_Sights_tell ml_S_364 rfl rfl rfl (fun h => by cases h) (Nat.le_of_ble_eq_true rfl) hd33 ho34 (fun z37 m38 hp39 hz40 hw41 => ?_)
        have H36 := H35 z37 m38 hp39 hz40 hw41
        exact Wq.iret d_S_seen_33 rfl H36
      · have H30 := H28 c26
        refine Wp.iconst d_S_seen_21 (by decide) ?_
        exact Wq.iret d_S_seen_22 rfl H30
theorem d_S_untell_0 : decode Y_S_untell.2.1 0 = .ok (.aload_n 0, 1) := by decide +kernel
theorem d_S_untell_1 : decode Y_S_untell.2.1 1 = .ok (.getfield 84, 3) := by decide +kernel
theorem d_S_untell_4 : decode Y_S_untell.2.1 4 = .ok (.iload_n 1, 1) := by decide +kernel
theorem d_S_untell_5 : decode Y_S_untell.2.1 5 = .ok (.invokevirtual 368, 3) := by decide +kernel
theorem d_S_untell_8 : decode Y_S_untell.2.1 8 = .ok (.ireturn, 1) := by decide +kernel
theorem e_S_untell {l : Launch} {G : GT} {d : Nat} {P : Int → MM → Prop} {m : MM} (x1 : Int)  (H : wfM m → inR x1 → ∃ (e1 : Nat) (P2 : Int → MM → Prop), e1 < d ∧ CI l G Y_Sights_takeBack e1 [.inr (.inr 55), .inl x1] m P2 ∧ (∀ z7 m8, P2 z7 m8 → inR z7 → wfM m8 → ((z7 = 0 ∨ z7 = 1) ∧ P z7 m8))) : CI l G Y_S_untell d [.inr (.inr 0), .inl x1] m P := by
  refine CI.of [(0, .inr (.inr 0)), (1, .inl x1)] k_S_untell.1 (Nat.le_of_ble_eq_true rfl) rfl (Wp.wf (fun hw _ hl hs => ?_))
  have H0 := H hw (hl _ (List.mem_of_getElem? (i := 1) rfl))
  refine Wp.aload_n 0 0 d_S_untell_0 rfl rfl ?_
  refine Wp.getP 55 d_S_untell_1 fl_S_84 rfl rfl rfl ?_
  refine Wp.iload_n 1 1 d_S_untell_4 rfl rfl ?_
  obtain ⟨e1, P2, hd3, ho4, H5⟩ := H0
  refine Wq.VI (st := []) [.inl x1] d_S_untell_5 k_Sights_takeBack ml_S_368 rfl rfl rfl (fun h => by cases h) (Nat.le_of_ble_eq_true rfl) hd3 ho4 (fun z7 m8 hp9 hz10 hw11 => ?_)
  have H6 := H5 z7 m8 hp9 hz10 hw11
  exact Wq.zret d_S_untell_8 rfl H6.1 H6.2
theorem d_S_later_0 : decode Y_S_later.2.1 0 = .ok (.aload_n 0, 1) := by decide +kernel
theorem d_S_later_1 : decode Y_S_later.2.1 1 = .ok (.getfield 84, 3) := by decide +kernel
theorem d_S_later_4 : decode Y_S_later.2.1 4 = .ok (.iload_n 1, 1) := by decide +kernel
theorem d_S_later_5 : decode Y_S_later.2.1 5 = .ok (.invokevirtual 371, 3) := by decide +kernel
theorem d_S_later_8 : decode Y_S_later.2.1 8 = .ok (.ireturn, 1) := by decide +kernel
theorem e_S_later {l : Launch} {G : GT} {d : Nat} {P : Int → MM → Prop} {m : MM} (x1 : Int)  (H : wfM m → inR x1 → ∃ (e1 : Nat) (P2 : Int → MM → Prop), e1 < d ∧ CI l G Y_Sights_goLater e1 [.inr (.inr 55), .inl x1] m P2 ∧ (∀ z7 m8, P2 z7 m8 → inR z7 → wfM m8 → (P z7 m8))) : CI l G Y_S_later d [.inr (.inr 0), .inl x1] m P := by
  refine CI.of [(0, .inr (.inr 0)), (1, .inl x1)] k_S_later.1 (Nat.le_of_ble_eq_true rfl) rfl (Wp.wf (fun hw _ hl hs => ?_))
  have H0 := H hw (hl _ (List.mem_of_getElem? (i := 1) rfl))
  refine Wp.aload_n 0 0 d_S_later_0 rfl rfl ?_
  refine Wp.getP 55 d_S_later_1 fl_S_84 rfl rfl rfl ?_
  refine Wp.iload_n 1 1 d_S_later_4 rfl rfl ?_
  obtain ⟨e1, P2, hd3, ho4, H5⟩ := H0
  refine Wq.VI (st := []) [.inl x1] d_S_later_5 k_Sights_goLater ml_S_371 rfl rfl rfl (fun h => by cases h) (Nat.le_of_ble_eq_true rfl) hd3 ho4 (fun z7 m8 hp9 hz10 hw11 => ?_)
  have H6 := H5 z7 m8 hp9 hz10 hw11
  exact Wq.iret d_S_later_8 rfl H6
theorem d_S_fits_0 : decode Y_S_fits.2.1 0 = .ok (.aload_n 0, 1) := by decide +kernel
theorem d_S_fits_1 : decode Y_S_fits.2.1 1 = .ok (.getfield 84, 3) := by decide +kernel
theorem d_S_fits_4 : decode Y_S_fits.2.1 4 = .ok (.aload_n 0, 1) := by decide +kernel
theorem d_S_fits_5 : decode Y_S_fits.2.1 5 = .ok (.getfield 27, 3) := by decide +kernel
theorem d_S_fits_8 : decode Y_S_fits.2.1 8 = .ok (.iload_n 1, 1) := by decide +kernel
theorem d_S_fits_9 : decode Y_S_fits.2.1 9 = .ok (.invokevirtual 374, 3) := by decide +kernel
theorem d_S_fits_12 : decode Y_S_fits.2.1 12 = .ok (.ireturn, 1) := by decide +kernel
theorem e_S_fits {l : Launch} {G : GT} {d : Nat} {P : Int → MM → Prop} {m : MM} (x1 : Int)  (H : wfM m → inR x1 → ∃ b1 : Nat, m 0 5 = b1 ∧ isB b1 ∧ (∃ (e5 : Nat) (P6 : Int → MM → Prop), e5 < d ∧ CI l G Y_Sights_weigh e5 [.inr (.inr 55), .inr (.inr b1), .inl x1] m P6 ∧ (∀ z11 m12, P6 z11 m12 → inR z11 → wfM m12 → (P z11 m12)))) : CI l G Y_S_fits d [.inr (.inr 0), .inl x1] m P := by
  refine CI.of [(0, .inr (.inr 0)), (1, .inl x1)] k_S_fits.1 (Nat.le_of_ble_eq_true rfl) rfl (Wp.wf (fun hw _ hl hs => ?_))
  have H0 := H hw (hl _ (List.mem_of_getElem? (i := 1) rfl))
  refine Wp.aload_n 0 0 d_S_fits_0 rfl rfl ?_
  refine Wp.getP 55 d_S_fits_1 fl_S_84 rfl rfl rfl ?_
  refine Wp.aload_n 0 0 d_S_fits_4 rfl rfl ?_
  obtain ⟨b1, hb2, hB3, H4⟩ := H0
  refine Wp.getR b1 d_S_fits_5 fl_S_27 rfl (Or.inl rfl) rfl hb2 ?_
  refine Wp.iload_n 1 1 d_S_fits_8 rfl rfl ?_
  obtain ⟨e5, P6, hd7, ho8, H9⟩ := H4
  refine Wq.VI (st := []) [.inr (.inr b1), .inl x1] d_S_fits_9 k_Sights_weigh ml_S_374 rfl rfl rfl (fun h => by cases h) (Nat.le_of_ble_eq_true rfl) hd7 ho8 (fun z11 m12 hp13 hz14 hw15 => ?_)
  have H10 := H9 z11 m12 hp13 hz14 hw15
  exact Wq.iret d_S_fits_12 rfl H10
theorem d_S_sure_0 : decode Y_S_sure.2.1 0 = .ok (.iload_n 1, 1) := by decide +kernel
theorem d_S_sure_1 : decode Y_S_sure.2.1 1 = .ok (.ifCond .lt 23, 3) := by decide +kernel
theorem d_S_sure_4 : decode Y_S_sure.2.1 4 = .ok (.iload_n 1, 1) := by decide +kernel
theorem d_S_sure_5 : decode Y_S_sure.2.1 5 = .ok (.iconst 1, 1) := by decide +kernel
theorem d_S_sure_6 : decode Y_S_sure.2.1 6 = .ok (.if_icmp .gt 18, 3) := by decide +kernel
theorem d_S_sure_9 : decode Y_S_sure.2.1 9 = .ok (.aload_n 0, 1) := by decide +kernel
theorem d_S_sure_10 : decode Y_S_sure.2.1 10 = .ok (.getfield 84, 3) := by decide +kernel
theorem d_S_sure_13 : decode Y_S_sure.2.1 13 = .ok (.aload_n 0, 1) := by decide +kernel
theorem d_S_sure_14 : decode Y_S_sure.2.1 14 = .ok (.getfield 27, 3) := by decide +kernel
theorem d_S_sure_17 : decode Y_S_sure.2.1 17 = .ok (.iload_n 2, 1) := by decide +kernel
theorem d_S_sure_18 : decode Y_S_sure.2.1 18 = .ok (.invokevirtual 374, 3) := by decide +kernel
theorem d_S_sure_21 : decode Y_S_sure.2.1 21 = .ok (.ifCond .ne 5, 3) := by decide +kernel
theorem d_S_sure_24 : decode Y_S_sure.2.1 24 = .ok (.iconst (-1), 1) := by decide +kernel
theorem d_S_sure_25 : decode Y_S_sure.2.1 25 = .ok (.ireturn, 1) := by decide +kernel
theorem d_S_sure_26 : decode Y_S_sure.2.1 26 = .ok (.iload_n 1, 1) := by decide +kernel
theorem d_S_sure_27 : decode Y_S_sure.2.1 27 = .ok (.ifCond .ne 13, 3) := by decide +kernel
theorem d_S_sure_30 : decode Y_S_sure.2.1 30 = .ok (.aload_n 0, 1) := by decide +kernel
theorem d_S_sure_31 : decode Y_S_sure.2.1 31 = .ok (.getfield 84, 3) := by decide +kernel
theorem d_S_sure_34 : decode Y_S_sure.2.1 34 = .ok (.getfield 377, 3) := by decide +kernel
theorem d_S_sure_37 : decode Y_S_sure.2.1 37 = .ok (.goto 10, 3) := by decide +kernel
theorem d_S_sure_40 : decode Y_S_sure.2.1 40 = .ok (.aload_n 0, 1) := by decide +kernel
theorem d_S_sure_41 : decode Y_S_sure.2.1 41 = .ok (.getfield 84, 3) := by decide +kernel
theorem d_S_sure_44 : decode Y_S_sure.2.1 44 = .ok (.getfield 380, 3) := by decide +kernel
theorem d_S_sure_47 : decode Y_S_sure.2.1 47 = .ok (.ireturn, 1) := by decide +kernel
theorem e_S_sure {l : Launch} {G : GT} {d : Nat} {P : Int → MM → Prop} {m : MM} (x1 : Int) (x2 : Int)  (H : wfM m → inR x1 → inR x2 → (x1 < 0 → (P (-1) m)) ∧ (¬ (x1 < 0) → ((x1 > 1 → (P (-1) m)) ∧ (¬ (x1 > 1) → (∃ b11 : Nat, m 0 5 = b11 ∧ isB b11 ∧ (∃ (e15 : Nat) (P16 : Int → MM → Prop), e15 < d ∧ CI l G Y_Sights_weigh e15 [.inr (.inr 55), .inr (.inr b11), .inl x2] m P16 ∧ (∀ z21 m22, P16 z21 m22 → inR z21 → wfM m22 → ((z21 ≠ 0 → ((x1 ≠ 0 → (P (m22 55 13) m22)) ∧ (¬ (x1 ≠ 0) → (P (m22 55 12) m22)))) ∧ (¬ (z21 ≠ 0) → (P (-1) m22)))))))))) : CI l G Y_S_sure d [.inr (.inr 0), .inl x1, .inl x2] m P := by
  refine CI.of [(0, .inr (.inr 0)), (1, .inl x1), (2, .inl x2)] k_S_sure.1 (Nat.le_of_ble_eq_true rfl) rfl (Wp.wf (fun hw _ hl hs => ?_))
  have H0 := H hw (hl _ (List.mem_of_getElem? (i := 1) rfl)) (hl _ (List.mem_of_getElem? (i := 2) rfl))
  refine Wp.iload_n 1 1 d_S_sure_0 rfl rfl ?_
  obtain ⟨H2, H3⟩ := H0
  refine Wp.if_lt 24 d_S_sure_1 (by decide) (fun c1 => ?_) (fun c1 => ?_)
  · have H4 := H2 c1
    refine Wp.iconst d_S_sure_24 (by decide) ?_
    exact Wq.iret d_S_sure_25 rfl H4
  · have H5 := H3 c1
    refine Wp.iload_n 1 1 d_S_sure_4 rfl rfl ?_
    refine Wp.iconst d_S_sure_5 (by decide) ?_
    obtain ⟨H7, H8⟩ := H5
    refine Wp.icmp_gt 24 d_S_sure_6 (by decide) (fun c6 => ?_) (fun c6 => ?_)
    · have H9 := H7 c6
      refine Wp.iconst d_S_sure_24 (by decide) ?_
      exact Wq.iret d_S_sure_25 rfl H9
    · have H10 := H8 c6
      refine Wp.aload_n 0 0 d_S_sure_9 rfl rfl ?_
      refine Wp.getP 55 d_S_sure_10 fl_S_84 rfl rfl rfl ?_
      refine Wp.aload_n 0 0 d_S_sure_13 rfl rfl ?_
      obtain ⟨b11, hb12, hB13, H14⟩ := H10
      refine Wp.getR b11 d_S_sure_14 fl_S_27 rfl (Or.inl rfl) rfl hb12 ?_
      refine Wp.iload_n 2 2 d_S_sure_17 rfl rfl ?_
      obtain ⟨e15, P16, hd17, ho18, H19⟩ := H14
      refine Wq.VI (st := []) [.inr (.inr b11), .inl x2] d_S_sure_18 k_Sights_weigh ml_S_374 rfl rfl rfl (fun h => by cases h) (Nat.le_of_ble_eq_true rfl) hd17 ho18 (fun z21 m22 hp23 hz24 hw25 => ?_)
      have H20 := H19 z21 m22 hp23 hz24 hw25
      obtain ⟨H27, H28⟩ := H20
      refine Wp.if_ne 26 d_S_sure_21 (by decide) (fun c26 => ?_) (fun c26 => ?_)
      · have H29 := H27 c26
        refine Wp.iload_n 1 1 d_S_sure_26 rfl rfl ?_
        obtain ⟨H32, H33⟩ := H29
        refine Wp.if_ne 40 d_S_sure_27 (by decide) (fun c31 => ?_) (fun c31 => ?_)
        · have H34 := H32 c31
          refine Wp.aload_n 0 0 d_S_sure_40 rfl rfl ?_
          refine Wp.getP 55 d_S_sure_41 fl_S_84 rfl rfl rfl ?_
          refine Wq.getI 13 rfl d_S_sure_44 fl_S_380 rfl (Or.inl rfl) ?_
          exact Wq.iret d_S_sure_47 rfl H34
        · have H35 := H33 c31
          refine Wp.aload_n 0 0 d_S_sure_30 rfl rfl ?_
          refine Wp.getP 55 d_S_sure_31 fl_S_84 rfl rfl rfl ?_
          refine Wq.getI 12 rfl d_S_sure_34 fl_S_377 rfl (Or.inl rfl) ?_
          refine Wp.goto 47 d_S_sure_37 (by decide) ?_
          exact Wq.iret d_S_sure_47 rfl H35
      · have H30 := H28 c26
        refine Wp.iconst d_S_sure_24 (by decide) ?_
        exact Wq.iret d_S_sure_25 rfl H30
theorem d_S_ask_0 : decode Y_S_ask.2.1 0 = .ok (.iload_n 1, 1) := by decide +kernel
theorem d_S_ask_1 : decode Y_S_ask.2.1 1 = .ok (.ifCond .lt 23, 3) := by decide +kernel
theorem d_S_ask_4 : decode Y_S_ask.2.1 4 = .ok (.iload_n 1, 1) := by decide +kernel
theorem d_S_ask_5 : decode Y_S_ask.2.1 5 = .ok (.iconst 1, 1) := by decide +kernel
theorem d_S_ask_6 : decode Y_S_ask.2.1 6 = .ok (.if_icmp .gt 18, 3) := by decide +kernel
theorem d_S_ask_9 : decode Y_S_ask.2.1 9 = .ok (.aload_n 0, 1) := by decide +kernel
theorem d_S_ask_10 : decode Y_S_ask.2.1 10 = .ok (.getfield 84, 3) := by decide +kernel
theorem d_S_ask_13 : decode Y_S_ask.2.1 13 = .ok (.aload_n 0, 1) := by decide +kernel
theorem d_S_ask_14 : decode Y_S_ask.2.1 14 = .ok (.getfield 27, 3) := by decide +kernel
theorem d_S_ask_17 : decode Y_S_ask.2.1 17 = .ok (.iload_n 2, 1) := by decide +kernel
theorem d_S_ask_18 : decode Y_S_ask.2.1 18 = .ok (.invokevirtual 374, 3) := by decide +kernel
theorem d_S_ask_21 : decode Y_S_ask.2.1 21 = .ok (.ifCond .ne 5, 3) := by decide +kernel
theorem d_S_ask_24 : decode Y_S_ask.2.1 24 = .ok (.iconst (-1), 1) := by decide +kernel
theorem d_S_ask_25 : decode Y_S_ask.2.1 25 = .ok (.ireturn, 1) := by decide +kernel
theorem d_S_ask_26 : decode Y_S_ask.2.1 26 = .ok (.iconst (-1), 1) := by decide +kernel
theorem d_S_ask_27 : decode Y_S_ask.2.1 27 = .ok (.istore_n 3, 1) := by decide +kernel
theorem d_S_ask_28 : decode Y_S_ask.2.1 28 = .ok (.ldc 255, 2) := by decide +kernel
theorem d_S_ask_30 : decode Y_S_ask.2.1 30 = .ok (.istore 4, 2) := by decide +kernel
theorem d_S_ask_32 : decode Y_S_ask.2.1 32 = .ok (.iconst 0, 1) := by decide +kernel
theorem d_S_ask_33 : decode Y_S_ask.2.1 33 = .ok (.istore 5, 2) := by decide +kernel
theorem d_S_ask_35 : decode Y_S_ask.2.1 35 = .ok (.iload 5, 2) := by decide +kernel
theorem d_S_ask_37 : decode Y_S_ask.2.1 37 = .ok (.aload_n 0, 1) := by decide +kernel
theorem d_S_ask_38 : decode Y_S_ask.2.1 38 = .ok (.getfield 27, 3) := by decide +kernel
theorem d_S_ask_41 : decode Y_S_ask.2.1 41 = .ok (.getfield 119, 3) := by decide +kernel
theorem d_S_ask_44 : decode Y_S_ask.2.1 44 = .ok (.if_icmp .ge 34, 3) := by decide +kernel
theorem d_S_ask_47 : decode Y_S_ask.2.1 47 = .ok (.aload_n 0, 1) := by decide +kernel
theorem d_S_ask_48 : decode Y_S_ask.2.1 48 = .ok (.getfield 84, 3) := by decide +kernel
theorem d_S_ask_51 : decode Y_S_ask.2.1 51 = .ok (.iload 5, 2) := by decide +kernel
theorem d_S_ask_53 : decode Y_S_ask.2.1 53 = .ok (.invokevirtual 383, 3) := by decide +kernel
theorem d_S_ask_56 : decode Y_S_ask.2.1 56 = .ok (.istore 6, 2) := by decide +kernel
theorem d_S_ask_58 : decode Y_S_ask.2.1 58 = .ok (.iload 6, 2) := by decide +kernel
theorem d_S_ask_60 : decode Y_S_ask.2.1 60 = .ok (.iload 4, 2) := by decide +kernel
theorem d_S_ask_62 : decode Y_S_ask.2.1 62 = .ok (.if_icmp .ge 10, 3) := by decide +kernel
theorem d_S_ask_65 : decode Y_S_ask.2.1 65 = .ok (.iload 6, 2) := by decide +kernel
theorem d_S_ask_67 : decode Y_S_ask.2.1 67 = .ok (.istore 4, 2) := by decide +kernel
theorem d_S_ask_69 : decode Y_S_ask.2.1 69 = .ok (.iload 5, 2) := by decide +kernel
theorem d_S_ask_71 : decode Y_S_ask.2.1 71 = .ok (.istore_n 3, 1) := by decide +kernel
theorem d_S_ask_72 : decode Y_S_ask.2.1 72 = .ok (.iinc 5 1, 3) := by decide +kernel
theorem d_S_ask_75 : decode Y_S_ask.2.1 75 = .ok (.goto (-40), 3) := by decide +kernel
theorem d_S_ask_78 : decode Y_S_ask.2.1 78 = .ok (.iload_n 1, 1) := by decide +kernel
theorem d_S_ask_79 : decode Y_S_ask.2.1 79 = .ok (.ifCond .ne 7, 3) := by decide +kernel
theorem d_S_ask_82 : decode Y_S_ask.2.1 82 = .ok (.iload_n 3, 1) := by decide +kernel
theorem d_S_ask_83 : decode Y_S_ask.2.1 83 = .ok (.goto 5, 3) := by decide +kernel
theorem d_S_ask_86 : decode Y_S_ask.2.1 86 = .ok (.iload 4, 2) := by decide +kernel
theorem d_S_ask_88 : decode Y_S_ask.2.1 88 = .ok (.ireturn, 1) := by decide +kernel
theorem e_S_ask {l : Launch} {G : GT} {d : Nat} {P : Int → MM → Prop} {m : MM} (x1 : Int) (x2 : Int)  (H : wfM m → inR x1 → inR x2 → (x1 < 0 → (P (-1) m)) ∧ (¬ (x1 < 0) → ((x1 > 1 → (P (-1) m)) ∧ (¬ (x1 > 1) → (∃ b11 : Nat, m 0 5 = b11 ∧ isB b11 ∧ (∃ (e15 : Nat) (P16 : Int → MM → Prop), e15 < d ∧ CI l G Y_Sights_weigh e15 [.inr (.inr 55), .inr (.inr b11), .inl x2] m P16 ∧ (∀ z21 m22, P16 z21 m22 → inR z21 → wfM m22 → ((z21 ≠ 0 → (Wq l G false Y_S_ask d (QI P) 35 [(0, .inr (.inr 0)), (1, .inl x1), (3, .inl (-1)), (4, .inl 1000000), (5, .inl 0)] [] m22)) ∧ (¬ (z21 ≠ 0) → (P (-1) m22)))))))))) : CI l G Y_S_ask d [.inr (.inr 0), .inl x1, .inl x2] m P := by
  refine CI.of [(0, .inr (.inr 0)), (1, .inl x1), (2, .inl x2)] k_S_ask.1 (Nat.le_of_ble_eq_true rfl) rfl (Wp.wf (fun hw _ hl hs => ?_))
  have H0 := H hw (hl _ (List.mem_of_getElem? (i := 1) rfl)) (hl _ (List.mem_of_getElem? (i := 2) rfl))
  refine Wp.iload_n 1 1 d_S_ask_0 rfl rfl ?_
  obtain ⟨H2, H3⟩ := H0
  refine Wp.if_lt 24 d_S_ask_1 (by decide) (fun c1 => ?_) (fun c1 => ?_)
  · have H4 := H2 c1
    refine Wp.iconst d_S_ask_24 (by decide) ?_
    exact Wq.iret d_S_ask_25 rfl H4
  · have H5 := H3 c1
    refine Wp.iload_n 1 1 d_S_ask_4 rfl rfl ?_
    refine Wp.iconst d_S_ask_5 (by decide) ?_
    obtain ⟨H7, H8⟩ := H5
    refine Wp.icmp_gt 24 d_S_ask_6 (by decide) (fun c6 => ?_) (fun c6 => ?_)
    · have H9 := H7 c6
      refine Wp.iconst d_S_ask_24 (by decide) ?_
      exact Wq.iret d_S_ask_25 rfl H9
    · have H10 := H8 c6
      refine Wp.aload_n 0 0 d_S_ask_9 rfl rfl ?_
      refine Wp.getP 55 d_S_ask_10 fl_S_84 rfl rfl rfl ?_
      refine Wp.aload_n 0 0 d_S_ask_13 rfl rfl ?_
      obtain ⟨b11, hb12, hB13, H14⟩ := H10
      refine Wp.getR b11 d_S_ask_14 fl_S_27 rfl (Or.inl rfl) rfl hb12 ?_
      refine Wp.iload_n 2 2 d_S_ask_17 rfl rfl ?_
      obtain ⟨e15, P16, hd17, ho18, H19⟩ := H14
      refine Wq.VI (st := []) [.inr (.inr b11), .inl x2] d_S_ask_18 k_Sights_weigh ml_S_374 rfl rfl rfl (fun h => by cases h) (Nat.le_of_ble_eq_true rfl) hd17 ho18 (fun z21 m22 hp23 hz24 hw25 => ?_)
      have H20 := H19 z21 m22 hp23 hz24 hw25
      obtain ⟨H27, H28⟩ := H20
      refine Wp.if_ne 26 d_S_ask_21 (by decide) (fun c26 => ?_) (fun c26 => ?_)
      · have H29 := H27 c26
        refine Wp.iconst d_S_ask_26 (by decide) ?_
        refine Wp.istore_n 3 [(0, .inr (.inr 0)), (1, .inl x1), (2, .inl x2), (3, .inl (-1))] d_S_ask_27 rfl (by decide) rfl ?_
        refine Wp.ldc (z := 1000000) d_S_ask_28 kc_S_255 (by decide) (by decide) ?_
        refine Wp.istore 4 [(0, .inr (.inr 0)), (1, .inl x1), (2, .inl x2), (3, .inl (-1)), (4, .inl 1000000)] d_S_ask_30 (by decide) rfl ?_
        refine Wp.iconst d_S_ask_32 (by decide) ?_
        refine Wp.istore 5 [(0, .inr (.inr 0)), (1, .inl x1), (2, .inl x2), (3, .inl (-1)), (4, .inl 1000000), (5, .inl 0)] d_S_ask_33 (by decide) rfl ?_
        refine Wp.pick [0, 1, 3, 4, 5] [(0, .inr (.inr 0)), (1, .inl x1), (3, .inl (-1)), (4, .inl 1000000), (5, .inl 0)] rfl ?_
        exact H29
      · have H30 := H28 c26
        refine Wp.iconst d_S_ask_24 (by decide) ?_
        exact Wq.iret d_S_ask_25 rfl H30
theorem s_S_ask_35 {l : Launch} {G : GT} {d : Nat} {P : Int → MM → Prop} {m : MM} (x1 : Int) (x3 : Int) (x4 : Int) (x5 : Int)  (H : wfM m → inR x1 → inR x3 → inR x4 → inR x5 → ∃ b1 : Nat, m 0 5 = b1 ∧ isB b1 ∧ ((x5 ≥ (m b1 0) → ((x1 ≠ 0 → (P x4 m)) ∧ (¬ (x1 ≠ 0) → (P x3 m)))) ∧ (¬ (x5 ≥ (m b1 0)) → (∃ (e15 : Nat) (P16 : Int → MM → Prop), e15 < d ∧ CI l G Y_Sights_leftAtMost e15 [.inr (.inr 55), .inl x5] m P16 ∧ (∀ z21 m22, P16 z21 m22 → inR z21 → wfM m22 → ((z21 ≥ x4 → ((inR (x5 + 1)) ∧ (Wq l G false Y_S_ask d (QI P) 35 [(0, .inr (.inr 0)), (1, .inl x1), (3, .inl x3), (4, .inl x4), (5, .inl (x5 + 1))] [] m22))) ∧ (¬ (z21 ≥ x4) → ((inR (x5 + 1)) ∧ (Wq l G false Y_S_ask d (QI P) 35 [(0, .inr (.inr 0)), (1, .inl x1), (3, .inl x5), (4, .inl z21), (5, .inl (x5 + 1))] [] m22))))))))) : Wq l G false Y_S_ask d (QI P) 35 [(0, .inr (.inr 0)), (1, .inl x1), (3, .inl x3), (4, .inl x4), (5, .inl x5)] [] m := by
  refine Wp.wf (fun hw _ hl hs => ?_)
  have H0 := H hw (hl _ (List.mem_of_getElem? (i := 1) rfl)) (hl _ (List.mem_of_getElem? (i := 2) rfl)) (hl _ (List.mem_of_getElem? (i := 3) rfl)) (hl _ (List.mem_of_getElem? (i := 4) rfl))
  refine Wp.iload 4 5 d_S_ask_35 rfl ?_
  refine Wp.aload_n 0 0 d_S_ask_37 rfl rfl ?_
  obtain ⟨b1, hb2, hB3, H4⟩ := H0
  refine Wp.getR b1 d_S_ask_38 fl_S_27 rfl (Or.inl rfl) rfl hb2 ?_
  refine Wq.getI 0 rfl d_S_ask_41 fl_S_119 (isB_lay hB3) (Or.inl rfl) ?_
  obtain ⟨H6, H7⟩ := H4
  refine Wp.icmp_ge 78 d_S_ask_44 (by decide) (fun c5 => ?_) (fun c5 => ?_)
  · have H8 := H6 c5
    refine Wp.iload_n 1 1 d_S_ask_78 rfl rfl ?_
    obtain ⟨H11, H12⟩ := H8
    refine Wp.if_ne 86 d_S_ask_79 (by decide) (fun c10 => ?_) (fun c10 => ?_)
    · have H13 := H11 c10
      refine Wp.iload 3 4 d_S_ask_86 rfl ?_
      exact Wq.iret d_S_ask_88 rfl H13
    · have H14 := H12 c10
      refine Wp.iload_n 2 3 d_S_ask_82 rfl rfl ?_
      refine Wp.goto 88 d_S_ask_83 (by decide) ?_
      exact Wq.iret d_S_ask_88 rfl H14
  · have H9 := H7 c5
    refine Wp.aload_n 0 0 d_S_ask_47 rfl rfl ?_
    refine Wp.getP 55 d_S_ask_48 fl_S_84 rfl rfl rfl ?_
    refine Wp.iload 4 5 d_S_ask_51 rfl ?_
    obtain ⟨e15, P16, hd17, ho18, H19⟩ := H9
    refine Wq.VI (st := []) [.inl x5] d_S_ask_53 k_Sights_leftAtMost ml_S_383 rfl rfl rfl (fun h => by cases h) (Nat.le_of_ble_eq_true rfl) hd17 ho18 (fun z21 m22 hp23 hz24 hw25 => ?_)
    have H20 := H19 z21 m22 hp23 hz24 hw25
    refine Wp.istore 6 [(0, .inr (.inr 0)), (1, .inl x1), (3, .inl x3), (4, .inl x4), (5, .inl x5), (6, .inl z21)] d_S_ask_56 (by decide) rfl ?_
    refine Wp.iload 5 6 d_S_ask_58 rfl ?_
    refine Wp.iload 3 4 d_S_ask_60 rfl ?_
    obtain ⟨H27, H28⟩ := H20
    refine Wp.icmp_ge 72 d_S_ask_62 (by decide) (fun c26 => ?_) (fun c26 => ?_)
    · have H29 := H27 c26
      obtain ⟨s31, H32⟩ := H29
      refine Wp.iinc 4 5 [(0, .inr (.inr 0)), (1, .inl x1), (3, .inl x3), (4, .inl x4), (5, .inl (x5 + 1)), (6, .inl z21)] d_S_ask_72 rfl s31 (by decide) rfl ?_
      refine Wp.goto 35 d_S_ask_75 (by decide) ?_
      refine Wp.pick [0, 1, 2, 3, 4] [(0, .inr (.inr 0)), (1, .inl x1), (3, .inl x3), (4, .inl x4), (5, .inl (x5 + 1))] rfl ?_
      exact H32
    · have H30 := H28 c26
      refine Wp.iload 5 6 d_S_ask_65 rfl ?_
      refine Wp.istore 4 [(0, .inr (.inr 0)), (1, .inl x1), (3, .inl x3), (4, .inl z21), (5, .inl x5), (6, .inl z21)] d_S_ask_67 (by decide) rfl ?_
      refine Wp.iload 4 5 d_S_ask_69 rfl ?_
      refine Wp.istore_n 3 [(0, .inr (.inr 0)), (1, .inl x1), (3, .inl x5), (4, .inl z21), (5, .inl x5), (6, .inl z21)] d_S_ask_71 rfl (by decide) rfl ?_
      obtain ⟨s33, H34⟩ := H30
      refine Wp.iinc 4 5 [(0, .inr (.inr 0)), (1, .inl x1), (3, .inl x5), (4, .inl z21), (5, .inl (x5 + 1)), (6, .inl z21)] d_S_ask_72 rfl s33 (by decide) rfl ?_
      refine Wp.goto 35 d_S_ask_75 (by decide) ?_
      refine Wp.pick [0, 1, 2, 3, 4] [(0, .inr (.inr 0)), (1, .inl x1), (3, .inl x5), (4, .inl z21), (5, .inl (x5 + 1))] rfl ?_
      exact H34
theorem d_S_image_0 : decode Y_S_image.2.1 0 = .ok (.iload_n 1, 1) := by decide +kernel
theorem d_S_image_1 : decode Y_S_image.2.1 1 = .ok (.ifCond .lt 8, 3) := by decide +kernel
theorem d_S_image_4 : decode Y_S_image.2.1 4 = .ok (.iload_n 1, 1) := by decide +kernel
theorem d_S_image_5 : decode Y_S_image.2.1 5 = .ok (.iconst 3, 1) := by decide +kernel
theorem d_S_image_6 : decode Y_S_image.2.1 6 = .ok (.if_icmp .lt 5, 3) := by decide +kernel
theorem d_S_image_9 : decode Y_S_image.2.1 9 = .ok (.iconst (-1), 1) := by decide +kernel
theorem d_S_image_10 : decode Y_S_image.2.1 10 = .ok (.ireturn, 1) := by decide +kernel
theorem d_S_image_11 : decode Y_S_image.2.1 11 = .ok (.aload_n 0, 1) := by decide +kernel
theorem d_S_image_12 : decode Y_S_image.2.1 12 = .ok (.getfield 34, 3) := by decide +kernel
theorem d_S_image_15 : decode Y_S_image.2.1 15 = .ok (.iconst 0, 1) := by decide +kernel
theorem d_S_image_16 : decode Y_S_image.2.1 16 = .ok (.aload_n 0, 1) := by decide +kernel
theorem d_S_image_17 : decode Y_S_image.2.1 17 = .ok (.getfield 50, 3) := by decide +kernel
theorem d_S_image_20 : decode Y_S_image.2.1 20 = .ok (.iload_n 1, 1) := by decide +kernel
theorem d_S_image_21 : decode Y_S_image.2.1 21 = .ok (.bipush 8, 2) := by decide +kernel
theorem d_S_image_23 : decode Y_S_image.2.1 23 = .ok (.imul, 1) := by decide +kernel
theorem d_S_image_24 : decode Y_S_image.2.1 24 = .ok (.bipush 8, 2) := by decide +kernel
theorem d_S_image_26 : decode Y_S_image.2.1 26 = .ok (.invokestatic 232, 3) := by decide +kernel
theorem d_S_image_29 : decode Y_S_image.2.1 29 = .ok (.aload_n 0, 1) := by decide +kernel
theorem d_S_image_30 : decode Y_S_image.2.1 30 = .ok (.getfield 53, 3) := by decide +kernel
theorem d_S_image_33 : decode Y_S_image.2.1 33 = .ok (.iload_n 1, 1) := by decide +kernel
theorem d_S_image_34 : decode Y_S_image.2.1 34 = .ok (.iconst 1, 1) := by decide +kernel
theorem d_S_image_35 : decode Y_S_image.2.1 35 = .ok (.bastore, 1) := by decide +kernel
theorem d_S_image_36 : decode Y_S_image.2.1 36 = .ok (.aload_n 0, 1) := by decide +kernel
theorem d_S_image_37 : decode Y_S_image.2.1 37 = .ok (.getfield 27, 3) := by decide +kernel
theorem d_S_image_40 : decode Y_S_image.2.1 40 = .ok (.aload_n 0, 1) := by decide +kernel
theorem d_S_image_41 : decode Y_S_image.2.1 41 = .ok (.getfield 34, 3) := by decide +kernel
theorem d_S_image_44 : decode Y_S_image.2.1 44 = .ok (.invokevirtual 311, 3) := by decide +kernel
theorem d_S_image_47 : decode Y_S_image.2.1 47 = .ok (.ireturn, 1) := by decide +kernel
theorem e_S_image {l : Launch} {G : GT} {d : Nat} {P : Int → MM → Prop} {m : MM} (x1 : Int)  (hd1 : 1 ≤ d) (H : wfM m → inR x1 → (x1 < 0 → (P (-1) m)) ∧ (¬ (x1 < 0) → ((x1 < 3 → ((inR (x1 * 8)) ∧ (((0 : Int) ≤ 0 ∧ (0 : Int) ≤ (x1 * 8) ∧ (0 : Int) < 8 ∧ (0 : Int) + 8 ≤ (8 : Nat) ∧ ((x1 * 8) : Int) + 8 ≤ (24 : Nat)) ∧ (∀ m13, m13 = upC m 25 30 0 (x1 * 8) 8 → ((0 ≤ x1 ∧ x1 < (3 : Int)) ∧ (∀ m18, m18 = up m13 31 x1 1 → (∃ b23 : Nat, m18 0 5 = b23 ∧ isB b23 ∧ (∃ (e27 : Nat) (P28 : Int → MM → Prop), e27 < d ∧ CI l G Y_Board_grainsOf e27 [.inr (.inr b23), .inr (.inr 25)] m18 P28 ∧ (∀ z33 m34, P28 z33 m34 → inR z33 → wfM m34 → (P z33 m34)))))))))) ∧ (¬ (x1 < 3) → (P (-1) m))))) : CI l G Y_S_image d [.inr (.inr 0), .inl x1] m P := by
  refine CI.of [(0, .inr (.inr 0)), (1, .inl x1)] k_S_image.1 (Nat.le_of_ble_eq_true rfl) rfl (Wp.wf (fun hw _ hl hs => ?_))
  have H0 := H hw (hl _ (List.mem_of_getElem? (i := 1) rfl))
  refine Wp.iload_n 1 1 d_S_image_0 rfl rfl ?_
  obtain ⟨H2, H3⟩ := H0
  refine Wp.if_lt 9 d_S_image_1 (by decide) (fun c1 => ?_) (fun c1 => ?_)
  · have H4 := H2 c1
    refine Wp.iconst d_S_image_9 (by decide) ?_
    exact Wq.iret d_S_image_10 rfl H4
  · have H5 := H3 c1
    refine Wp.iload_n 1 1 d_S_image_4 rfl rfl ?_
    refine Wp.iconst d_S_image_5 (by decide) ?_
    obtain ⟨H7, H8⟩ := H5
    refine Wp.icmp_lt 11 d_S_image_6 (by decide) (fun c6 => ?_) (fun c6 => ?_)
    · have H9 := H7 c6
      refine Wp.aload_n 0 0 d_S_image_11 rfl rfl ?_
      refine Wp.getP 25 d_S_image_12 fl_S_34 rfl rfl rfl ?_
      refine Wp.iconst d_S_image_15 (by decide) ?_
      refine Wp.aload_n 0 0 d_S_image_16 rfl rfl ?_
      refine Wp.getP 30 d_S_image_17 fl_S_50 rfl rfl rfl ?_
      refine Wp.iload_n 1 1 d_S_image_20 rfl rfl ?_
      refine Wp.bipush d_S_image_21 (by decide) (by decide) ?_
      obtain ⟨s11, H12⟩ := H9
      refine Wp.imul d_S_image_23 s11 ?_
      refine Wp.bipush d_S_image_24 (by decide) (by decide) ?_
      obtain ⟨s17, H16⟩ := H12
      refine Wq.acopy d_S_image_26 ml_S_232 rfl rfl (by decide) (by decide) hd1 (fun h => by cases h) (Nat.le_of_ble_eq_true rfl) s17 (fun m13 hm14 => ?_)
      have H15 := H16 m13 hm14
      refine Wp.aload_n 0 0 d_S_image_29 rfl rfl ?_
      refine Wp.getP 31 d_S_image_30 fl_S_53 rfl rfl rfl ?_
      refine Wp.iload_n 1 1 d_S_image_33 rfl rfl ?_
      refine Wp.iconst d_S_image_34 (by decide) ?_
      obtain ⟨s38, H39⟩ := H15
      refine Wq.zast d_S_image_35 rfl s38.1 s38.2 (by decide) (fun m18 hm19 => ?_)
      have H20 := H39 m18 hm19
      refine Wp.aload_n 0 0 d_S_image_36 rfl rfl ?_
      obtain ⟨b23, hb24, hB25, H26⟩ := H20
      refine Wp.getR b23 d_S_image_37 fl_S_27 rfl (Or.inl rfl) rfl hb24 ?_
      refine Wp.aload_n 0 0 d_S_image_40 rfl rfl ?_
      refine Wp.getP 25 d_S_image_41 fl_S_34 rfl rfl rfl ?_
      obtain ⟨e27, P28, hd29, ho30, H31⟩ := H26
      refine Wq.VI (st := []) [.inr (.inr 25)] d_S_image_44 k_Board_grainsOf ml_S_311 rfl (isB_lay hB25) rfl (fun h => by cases h) (Nat.le_of_ble_eq_true rfl) hd29 ho30 (fun z33 m34 hp35 hz36 hw37 => ?_)
      have H32 := H31 z33 m34 hp35 hz36 hw37
      exact Wq.iret d_S_image_47 rfl H32
    · have H10 := H8 c6
      refine Wp.iconst d_S_image_9 (by decide) ?_
      exact Wq.iret d_S_image_10 rfl H10
theorem d_S_back_0 : decode Y_S_back.2.1 0 = .ok (.aload_n 0, 1) := by decide +kernel
theorem d_S_back_1 : decode Y_S_back.2.1 1 = .ok (.iload_n 1, 1) := by decide +kernel
theorem d_S_back_2 : decode Y_S_back.2.1 2 = .ok (.invokevirtual 299, 3) := by decide +kernel
theorem d_S_back_5 : decode Y_S_back.2.1 5 = .ok (.ifCond .ne 5, 3) := by decide +kernel
theorem d_S_back_8 : decode Y_S_back.2.1 8 = .ok (.iconst (-1), 1) := by decide +kernel
theorem d_S_back_9 : decode Y_S_back.2.1 9 = .ok (.ireturn, 1) := by decide +kernel
theorem d_S_back_10 : decode Y_S_back.2.1 10 = .ok (.aload_n 0, 1) := by decide +kernel
theorem d_S_back_11 : decode Y_S_back.2.1 11 = .ok (.getfield 50, 3) := by decide +kernel
theorem d_S_back_14 : decode Y_S_back.2.1 14 = .ok (.iload_n 1, 1) := by decide +kernel
theorem d_S_back_15 : decode Y_S_back.2.1 15 = .ok (.bipush 8, 2) := by decide +kernel
theorem d_S_back_17 : decode Y_S_back.2.1 17 = .ok (.imul, 1) := by decide +kernel
theorem d_S_back_18 : decode Y_S_back.2.1 18 = .ok (.aload_n 0, 1) := by decide +kernel
theorem d_S_back_19 : decode Y_S_back.2.1 19 = .ok (.getfield 34, 3) := by decide +kernel
theorem d_S_back_22 : decode Y_S_back.2.1 22 = .ok (.iconst 0, 1) := by decide +kernel
theorem d_S_back_23 : decode Y_S_back.2.1 23 = .ok (.bipush 8, 2) := by decide +kernel
theorem d_S_back_25 : decode Y_S_back.2.1 25 = .ok (.invokestatic 232, 3) := by decide +kernel
theorem d_S_back_28 : decode Y_S_back.2.1 28 = .ok (.aload_n 0, 1) := by decide +kernel
theorem d_S_back_29 : decode Y_S_back.2.1 29 = .ok (.getfield 46, 3) := by decide +kernel
theorem d_S_back_32 : decode Y_S_back.2.1 32 = .ok (.aload_n 0, 1) := by decide +kernel
theorem d_S_back_33 : decode Y_S_back.2.1 33 = .ok (.getfield 34, 3) := by decide +kernel
theorem d_S_back_36 : decode Y_S_back.2.1 36 = .ok (.invokevirtual 128, 3) := by decide +kernel
theorem d_S_back_39 : decode Y_S_back.2.1 39 = .ok (.aload_n 0, 1) := by decide +kernel
theorem d_S_back_40 : decode Y_S_back.2.1 40 = .ok (.getfield 27, 3) := by decide +kernel
theorem d_S_back_43 : decode Y_S_back.2.1 43 = .ok (.aload_n 0, 1) := by decide +kernel
theorem d_S_back_44 : decode Y_S_back.2.1 44 = .ok (.getfield 34, 3) := by decide +kernel
theorem d_S_back_47 : decode Y_S_back.2.1 47 = .ok (.invokevirtual 311, 3) := by decide +kernel
theorem d_S_back_50 : decode Y_S_back.2.1 50 = .ok (.ireturn, 1) := by decide +kernel
theorem e_S_back {l : Launch} {G : GT} {d : Nat} {P : Int → MM → Prop} {m : MM} (x1 : Int)  (hd1 : 1 ≤ d) (H : wfM m → inR x1 → ∃ (e1 : Nat) (P2 : Int → MM → Prop), e1 < d ∧ CI l G Y_S_isFilled e1 [.inr (.inr 0), .inl x1] m P2 ∧ (∀ z7 m8, P2 z7 m8 → inR z7 → wfM m8 → ((z7 ≠ 0 → ((inR (x1 * 8)) ∧ (((0 : Int) ≤ (x1 * 8) ∧ (0 : Int) ≤ 0 ∧ (0 : Int) < 8 ∧ ((x1 * 8) : Int) + 8 ≤ (24 : Nat) ∧ (0 : Int) + 8 ≤ (8 : Nat)) ∧ (∀ m19, m19 = upC m8 30 25 (x1 * 8) 0 8 → (∃ (e24 : Nat) (P25 : MM → Prop), e24 < d ∧ CV l G Y_Acts_forget e24 [.inr (.inr 28), .inr (.inr 25)] m19 P25 ∧ (∀ m31, P25 m31 → wfM m31 → (∃ b35 : Nat, m31 0 5 = b35 ∧ isB b35 ∧ (∃ (e39 : Nat) (P40 : Int → MM → Prop), e39 < d ∧ CI l G Y_Board_grainsOf e39 [.inr (.inr b35), .inr (.inr 25)] m31 P40 ∧ (∀ z45 m46, P40 z45 m46 → inR z45 → wfM m46 → (P z45 m46)))))))))) ∧ (¬ (z7 ≠ 0) → (P (-1) m8))))) : CI l G Y_S_back d [.inr (.inr 0), .inl x1] m P := by
  refine CI.of [(0, .inr (.inr 0)), (1, .inl x1)] k_S_back.1 (Nat.le_of_ble_eq_true rfl) rfl (Wp.wf (fun hw _ hl hs => ?_))
  have H0 := H hw (hl _ (List.mem_of_getElem? (i := 1) rfl))
  refine Wp.aload_n 0 0 d_S_back_0 rfl rfl ?_
  refine Wp.iload_n 1 1 d_S_back_1 rfl rfl ?_
  obtain ⟨e1, P2, hd3, ho4, H5⟩ := H0
  refine Wq.VI (st := []) [.inl x1] d_S_back_2 k_S_isFilled ml_S_299 rfl rfl rfl (fun h => by cases h) (Nat.le_of_ble_eq_true rfl) hd3 ho4 (fun z7 m8 hp9 hz10 hw11 => ?_)
  have H6 := H5 z7 m8 hp9 hz10 hw11
  obtain ⟨H13, H14⟩ := H6
  refine Wp.if_ne 10 d_S_back_5 (by decide) (fun c12 => ?_) (fun c12 => ?_)
  · have H15 := H13 c12
    refine Wp.aload_n 0 0 d_S_back_10 rfl rfl ?_
    refine Wp.getP 30 d_S_back_11 fl_S_50 rfl rfl rfl ?_
    refine Wp.iload_n 1 1 d_S_back_14 rfl rfl ?_
    refine Wp.bipush d_S_back_15 (by decide) (by decide) ?_
    obtain ⟨s17, H18⟩ := H15
    refine Wp.imul d_S_back_17 s17 ?_
    refine Wp.aload_n 0 0 d_S_back_18 rfl rfl ?_
    refine Wp.getP 25 d_S_back_19 fl_S_34 rfl rfl rfl ?_
    refine Wp.iconst d_S_back_22 (by decide) ?_
    refine Wp.bipush d_S_back_23 (by decide) (by decide) ?_
    obtain ⟨s23, H22⟩ := H18
    refine Wq.acopy d_S_back_25 ml_S_232 rfl rfl (by decide) (by decide) hd1 (fun h => by cases h) (Nat.le_of_ble_eq_true rfl) s23 (fun m19 hm20 => ?_)
    have H21 := H22 m19 hm20
    refine Wp.aload_n 0 0 d_S_back_28 rfl rfl ?_
    refine Wp.getP 28 d_S_back_29 fl_S_46 rfl rfl rfl ?_
    refine Wp.aload_n 0 0 d_S_back_32 rfl rfl ?_
    refine Wp.getP 25 d_S_back_33 fl_S_34 rfl rfl rfl ?_
    obtain ⟨e24, P25, hd26, ho27, H28⟩ := H21
    refine Wq.VV (st := []) [.inr (.inr 25)] d_S_back_36 k_Acts_forget ml_S_128 rfl rfl rfl (fun h => by cases h) (Nat.le_of_ble_eq_true rfl) hd26 ho27 (fun m31 hp32 hw34 => ?_)
    have H29 := H28 m31 hp32 hw34
    refine Wp.aload_n 0 0 d_S_back_39 rfl rfl ?_
    obtain ⟨b35, hb36, hB37, H38⟩ := H29
    refine Wp.getR b35 d_S_back_40 fl_S_27 rfl (Or.inl rfl) rfl hb36 ?_
    refine Wp.aload_n 0 0 d_S_back_43 rfl rfl ?_
    refine Wp.getP 25 d_S_back_44 fl_S_34 rfl rfl rfl ?_
    obtain ⟨e39, P40, hd41, ho42, H43⟩ := H38
    refine Wq.VI (st := []) [.inr (.inr 25)] d_S_back_47 k_Board_grainsOf ml_S_311 rfl (isB_lay hB37) rfl (fun h => by cases h) (Nat.le_of_ble_eq_true rfl) hd41 ho42 (fun z45 m46 hp47 hz48 hw49 => ?_)
    have H44 := H43 z45 m46 hp47 hz48 hw49
    exact Wq.iret d_S_back_50 rfl H44
  · have H16 := H14 c12
    refine Wp.iconst d_S_back_8 (by decide) ?_
    exact Wq.iret d_S_back_9 rfl H16
theorem d_S_about_0 : decode Y_S_about.2.1 0 = .ok (.iload_n 1, 1) := by decide +kernel
theorem d_S_about_1 : decode Y_S_about.2.1 1 = .ok (.tableswitch 208 0 14 #[75, 83, 91, 103, 110, 118, 126, 134, 150, 158, 166, 171, 179, 187, 195], 75) := by decide +kernel
theorem d_S_about_76 : decode Y_S_about.2.1 76 = .ok (.aload_n 0, 1) := by decide +kernel
theorem d_S_about_77 : decode Y_S_about.2.1 77 = .ok (.getfield 27, 3) := by decide +kernel
theorem d_S_about_80 : decode Y_S_about.2.1 80 = .ok (.getfield 119, 3) := by decide +kernel
theorem d_S_about_83 : decode Y_S_about.2.1 83 = .ok (.ireturn, 1) := by decide +kernel
theorem d_S_about_84 : decode Y_S_about.2.1 84 = .ok (.aload_n 0, 1) := by decide +kernel
theorem d_S_about_85 : decode Y_S_about.2.1 85 = .ok (.getfield 27, 3) := by decide +kernel
theorem d_S_about_88 : decode Y_S_about.2.1 88 = .ok (.getfield 386, 3) := by decide +kernel
theorem d_S_about_91 : decode Y_S_about.2.1 91 = .ok (.ireturn, 1) := by decide +kernel
theorem d_S_about_92 : decode Y_S_about.2.1 92 = .ok (.aload_n 0, 1) := by decide +kernel
theorem d_S_about_93 : decode Y_S_about.2.1 93 = .ok (.getfield 27, 3) := by decide +kernel
theorem d_S_about_96 : decode Y_S_about.2.1 96 = .ok (.aload_n 0, 1) := by decide +kernel
theorem d_S_about_97 : decode Y_S_about.2.1 97 = .ok (.getfield 34, 3) := by decide +kernel
theorem d_S_about_100 : decode Y_S_about.2.1 100 = .ok (.invokevirtual 311, 3) := by decide +kernel
theorem d_S_about_103 : decode Y_S_about.2.1 103 = .ok (.ireturn, 1) := by decide +kernel
theorem d_S_about_104 : decode Y_S_about.2.1 104 = .ok (.aload_n 0, 1) := by decide +kernel
theorem d_S_about_105 : decode Y_S_about.2.1 105 = .ok (.getfield 34, 3) := by decide +kernel
theorem d_S_about_108 : decode Y_S_about.2.1 108 = .ok (.iconst 5, 1) := by decide +kernel
theorem d_S_about_109 : decode Y_S_about.2.1 109 = .ok (.iaload, 1) := by decide +kernel
theorem d_S_about_110 : decode Y_S_about.2.1 110 = .ok (.ireturn, 1) := by decide +kernel
theorem d_S_about_111 : decode Y_S_about.2.1 111 = .ok (.aload_n 0, 1) := by decide +kernel
theorem d_S_about_112 : decode Y_S_about.2.1 112 = .ok (.getfield 34, 3) := by decide +kernel
theorem d_S_about_115 : decode Y_S_about.2.1 115 = .ok (.bipush 6, 2) := by decide +kernel
theorem d_S_about_117 : decode Y_S_about.2.1 117 = .ok (.iaload, 1) := by decide +kernel
theorem d_S_about_118 : decode Y_S_about.2.1 118 = .ok (.ireturn, 1) := by decide +kernel
theorem d_S_about_119 : decode Y_S_about.2.1 119 = .ok (.aload_n 0, 1) := by decide +kernel
theorem d_S_about_120 : decode Y_S_about.2.1 120 = .ok (.getfield 34, 3) := by decide +kernel
theorem d_S_about_123 : decode Y_S_about.2.1 123 = .ok (.bipush 7, 2) := by decide +kernel
theorem d_S_about_125 : decode Y_S_about.2.1 125 = .ok (.iaload, 1) := by decide +kernel
theorem d_S_about_126 : decode Y_S_about.2.1 126 = .ok (.ireturn, 1) := by decide +kernel
theorem d_S_about_127 : decode Y_S_about.2.1 127 = .ok (.aload_n 0, 1) := by decide +kernel
theorem d_S_about_128 : decode Y_S_about.2.1 128 = .ok (.getfield 46, 3) := by decide +kernel
theorem d_S_about_131 : decode Y_S_about.2.1 131 = .ok (.getfield 389, 3) := by decide +kernel
theorem d_S_about_134 : decode Y_S_about.2.1 134 = .ok (.ireturn, 1) := by decide +kernel
theorem d_S_about_135 : decode Y_S_about.2.1 135 = .ok (.aload_n 0, 1) := by decide +kernel
theorem d_S_about_136 : decode Y_S_about.2.1 136 = .ok (.getfield 46, 3) := by decide +kernel
theorem d_S_about_139 : decode Y_S_about.2.1 139 = .ok (.getfield 392, 3) := by decide +kernel
theorem d_S_about_142 : decode Y_S_about.2.1 142 = .ok (.aload_n 0, 1) := by decide +kernel
theorem d_S_about_143 : decode Y_S_about.2.1 143 = .ok (.getfield 46, 3) := by decide +kernel
theorem d_S_about_146 : decode Y_S_about.2.1 146 = .ok (.getfield 389, 3) := by decide +kernel
theorem d_S_about_149 : decode Y_S_about.2.1 149 = .ok (.isub, 1) := by decide +kernel
theorem d_S_about_150 : decode Y_S_about.2.1 150 = .ok (.ireturn, 1) := by decide +kernel
theorem d_S_about_151 : decode Y_S_about.2.1 151 = .ok (.aload_n 0, 1) := by decide +kernel
theorem d_S_about_152 : decode Y_S_about.2.1 152 = .ok (.getfield 84, 3) := by decide +kernel
theorem d_S_about_155 : decode Y_S_about.2.1 155 = .ok (.getfield 395, 3) := by decide +kernel
theorem d_S_about_158 : decode Y_S_about.2.1 158 = .ok (.ireturn, 1) := by decide +kernel
theorem d_S_about_159 : decode Y_S_about.2.1 159 = .ok (.aload_n 0, 1) := by decide +kernel
theorem d_S_about_160 : decode Y_S_about.2.1 160 = .ok (.getfield 84, 3) := by decide +kernel
theorem d_S_about_163 : decode Y_S_about.2.1 163 = .ok (.getfield 396, 3) := by decide +kernel
theorem d_S_about_166 : decode Y_S_about.2.1 166 = .ok (.ireturn, 1) := by decide +kernel
theorem d_S_about_167 : decode Y_S_about.2.1 167 = .ok (.aload_n 0, 1) := by decide +kernel
theorem d_S_about_168 : decode Y_S_about.2.1 168 = .ok (.getfield 98, 3) := by decide +kernel
theorem d_S_about_171 : decode Y_S_about.2.1 171 = .ok (.ireturn, 1) := by decide +kernel
theorem d_S_about_172 : decode Y_S_about.2.1 172 = .ok (.aload_n 0, 1) := by decide +kernel
theorem d_S_about_173 : decode Y_S_about.2.1 173 = .ok (.getfield 27, 3) := by decide +kernel
theorem d_S_about_176 : decode Y_S_about.2.1 176 = .ok (.getfield 399, 3) := by decide +kernel
theorem d_S_about_179 : decode Y_S_about.2.1 179 = .ok (.ireturn, 1) := by decide +kernel
theorem d_S_about_180 : decode Y_S_about.2.1 180 = .ok (.aload_n 0, 1) := by decide +kernel
theorem d_S_about_181 : decode Y_S_about.2.1 181 = .ok (.getfield 91, 3) := by decide +kernel
theorem d_S_about_184 : decode Y_S_about.2.1 184 = .ok (.getfield 358, 3) := by decide +kernel
theorem d_S_about_187 : decode Y_S_about.2.1 187 = .ok (.ireturn, 1) := by decide +kernel
theorem d_S_about_188 : decode Y_S_about.2.1 188 = .ok (.aload_n 0, 1) := by decide +kernel
theorem d_S_about_189 : decode Y_S_about.2.1 189 = .ok (.getfield 27, 3) := by decide +kernel
theorem d_S_about_192 : decode Y_S_about.2.1 192 = .ok (.getfield 192, 3) := by decide +kernel
theorem d_S_about_195 : decode Y_S_about.2.1 195 = .ok (.ireturn, 1) := by decide +kernel
theorem d_S_about_196 : decode Y_S_about.2.1 196 = .ok (.aload_n 0, 1) := by decide +kernel
theorem d_S_about_197 : decode Y_S_about.2.1 197 = .ok (.invokevirtual 221, 3) := by decide +kernel
theorem d_S_about_200 : decode Y_S_about.2.1 200 = .ok (.ifCond .ne 7, 3) := by decide +kernel
theorem d_S_about_203 : decode Y_S_about.2.1 203 = .ok (.iconst 1, 1) := by decide +kernel
theorem d_S_about_204 : decode Y_S_about.2.1 204 = .ok (.goto 4, 3) := by decide +kernel
theorem d_S_about_207 : decode Y_S_about.2.1 207 = .ok (.iconst 0, 1) := by decide +kernel
theorem d_S_about_208 : decode Y_S_about.2.1 208 = .ok (.ireturn, 1) := by decide +kernel
theorem d_S_about_209 : decode Y_S_about.2.1 209 = .ok (.iconst (-1), 1) := by decide +kernel
theorem d_S_about_210 : decode Y_S_about.2.1 210 = .ok (.ireturn, 1) := by decide +kernel
theorem e_S_about {l : Launch} {G : GT} {d : Nat} {P : Int → MM → Prop} {m : MM} (x1 : Int)  (H : wfM m → inR x1 → (x1 = 0 → (∃ b5 : Nat, m 0 5 = b5 ∧ isB b5 ∧ (P (m b5 0) m))) ∧ (x1 = 1 → (∃ b13 : Nat, m 0 5 = b13 ∧ isB b13 ∧ (P (m b13 1) m))) ∧ (x1 = 2 → (∃ b21 : Nat, m 0 5 = b21 ∧ isB b21 ∧ (∃ (e25 : Nat) (P26 : Int → MM → Prop), e25 < d ∧ CI l G Y_Board_grainsOf e25 [.inr (.inr b21), .inr (.inr 25)] m P26 ∧ (∀ z31 m32, P26 z31 m32 → inR z31 → wfM m32 → (P z31 m32))))) ∧ (x1 = 3 → (P (m 25 5) m)) ∧ (x1 = 4 → (P (m 25 6) m)) ∧ (x1 = 5 → (P (m 25 7) m)) ∧ (x1 = 6 → (P (m 28 1) m)) ∧ (x1 = 7 → ((inR ((m 28 2) - (m 28 1))) ∧ (P ((m 28 2) - (m 28 1)) m))) ∧ (x1 = 8 → (P (m 55 10) m)) ∧ (x1 = 9 → (P (m 55 11) m)) ∧ (x1 = 10 → (P (m 0 1) m)) ∧ (x1 = 11 → (∃ b74 : Nat, m 0 5 = b74 ∧ isB b74 ∧ (P (m b74 4) m))) ∧ (x1 = 12 → (P (m 67 1) m)) ∧ (x1 = 13 → (∃ b86 : Nat, m 0 5 = b86 ∧ isB b86 ∧ (P (m b86 2) m))) ∧ (x1 = 14 → (∃ (e94 : Nat) (P95 : Int → MM → Prop), e94 < d ∧ CI l G Y_S_over e94 [.inr (.inr 0)] m P95 ∧ (∀ z100 m101, P95 z100 m101 → inR z100 → wfM m101 → ((z100 ≠ 0 → (P 0 m101)) ∧ (¬ (z100 ≠ 0) → (P 1 m101)))))) ∧ (¬ (x1 = 0) → ¬ (x1 = 1) → ¬ (x1 = 2) → ¬ (x1 = 3) → ¬ (x1 = 4) → ¬ (x1 = 5) → ¬ (x1 = 6) → ¬ (x1 = 7) → ¬ (x1 = 8) → ¬ (x1 = 9) → ¬ (x1 = 10) → ¬ (x1 = 11) → ¬ (x1 = 12) → ¬ (x1 = 13) → ¬ (x1 = 14) → (P (-1) m))) : CI l G Y_S_about d [.inr (.inr 0), .inl x1] m P := by
  refine CI.of [(0, .inr (.inr 0)), (1, .inl x1)] k_S_about.1 (Nat.le_of_ble_eq_true rfl) rfl (Wp.wf (fun hw _ hl hs => ?_))
  have H0 := H hw (hl _ (List.mem_of_getElem? (i := 1) rfl))
  refine Wp.iload_n 1 1 d_S_about_0 rfl rfl ?_
  obtain ⟨H1, H2⟩ := H0
  by_cases c3 : x1 = 0
  · have H4 := H1 c3
    refine Wp.tin (off := 75) 0 76 d_S_about_1 c3 (by decide +kernel) (by decide +kernel) (by decide +kernel) (by decide +kernel) ?_
    refine Wp.aload_n 0 0 d_S_about_76 rfl rfl ?_
    obtain ⟨b5, hb6, hB7, H8⟩ := H4
    refine Wp.getR b5 d_S_about_77 fl_S_27 rfl (Or.inl rfl) rfl hb6 ?_
    refine Wq.getI 0 rfl d_S_about_80 fl_S_119 (isB_lay hB7) (Or.inl rfl) ?_
    exact Wq.iret d_S_about_83 rfl H8
  obtain ⟨H9, H10⟩ := H2
  by_cases c11 : x1 = 1
  · have H12 := H9 c11
    refine Wp.tin (off := 83) 1 84 d_S_about_1 c11 (by decide +kernel) (by decide +kernel) (by decide +kernel) (by decide +kernel) ?_
    refine Wp.aload_n 0 0 d_S_about_84 rfl rfl ?_
    obtain ⟨b13, hb14, hB15, H16⟩ := H12
    refine Wp.getR b13 d_S_about_85 fl_S_27 rfl (Or.inl rfl) rfl hb14 ?_
    refine Wq.getI 1 rfl d_S_about_88 fl_S_386 (isB_lay hB15) (Or.inl rfl) ?_
    exact Wq.iret d_S_about_91 rfl H16
  obtain ⟨H17, H18⟩ := H10
  by_cases c19 : x1 = 2
  · have H20 := H17 c19
    refine Wp.tin (off := 91) 2 92 d_S_about_1 c19 (by decide +kernel) (by decide +kernel) (by decide +kernel) (by decide +kernel) ?_
    refine Wp.aload_n 0 0 d_S_about_92 rfl rfl ?_
    obtain ⟨b21, hb22, hB23, H24⟩ := H20
    refine Wp.getR b21 d_S_about_93 fl_S_27 rfl (Or.inl rfl) rfl hb22 ?_
    refine Wp.aload_n 0 0 d_S_about_96 rfl rfl ?_
    refine Wp.getP 25 d_S_about_97 fl_S_34 rfl rfl rfl ?_
    obtain ⟨e25, P26, hd27, ho28, H29⟩ := H24
    refine Wq.VI (st := []) [.inr (.inr 25)] d_S_about_100 k_Board_grainsOf ml_S_311 rfl (isB_lay hB23) rfl (fun h => by cases h) (Nat.le_of_ble_eq_true rfl) hd27 ho28 (fun z31 m32 hp33 hz34 hw35 => ?_)
    have H30 := H29 z31 m32 hp33 hz34 hw35
    exact Wq.iret d_S_about_103 rfl H30
  obtain ⟨H36, H37⟩ := H18
  by_cases c38 : x1 = 3
  · have H39 := H36 c38
    refine Wp.tin (off := 103) 3 104 d_S_about_1 c38 (by decide +kernel) (by decide +kernel) (by decide +kernel) (by decide +kernel) ?_
    refine Wp.aload_n 0 0 d_S_about_104 rfl rfl ?_
    refine Wp.getP 25 d_S_about_105 fl_S_34 rfl rfl rfl ?_
    refine Wp.iconst d_S_about_108 (by decide) ?_
    refine Wp.iald d_S_about_109 rfl (Or.inl rfl) (by decide) (by decide) ?_
    exact Wq.iret d_S_about_110 rfl H39
  obtain ⟨H40, H41⟩ := H37
  by_cases c42 : x1 = 4
  · have H43 := H40 c42
    refine Wp.tin (off := 110) 4 111 d_S_about_1 c42 (by decide +kernel) (by decide +kernel) (by decide +kernel) (by decide +kernel) ?_
    refine Wp.aload_n 0 0 d_S_about_111 rfl rfl ?_
    refine Wp.getP 25 d_S_about_112 fl_S_34 rfl rfl rfl ?_
    refine Wp.bipush d_S_about_115 (by decide) (by decide) ?_
    refine Wp.iald d_S_about_117 rfl (Or.inl rfl) (by decide) (by decide) ?_
    exact Wq.iret d_S_about_118 rfl H43
  obtain ⟨H44, H45⟩ := H41
  by_cases c46 : x1 = 5
  · have H47 := H44 c46
    refine Wp.tin (off := 118) 5 119 d_S_about_1 c46 (by decide +kernel) (by decide +kernel) (by decide +kernel) (by decide +kernel) ?_
    refine Wp.aload_n 0 0 d_S_about_119 rfl rfl ?_
    refine Wp.getP 25 d_S_about_120 fl_S_34 rfl rfl rfl ?_
    refine Wp.bipush d_S_about_123 (by decide) (by decide) ?_
    refine Wp.iald d_S_about_125 rfl (Or.inl rfl) (by decide) (by decide) ?_
    exact Wq.iret d_S_about_126 rfl H47
  obtain ⟨H48, H49⟩ := H45
  by_cases c50 : x1 = 6
  · have H51 := H48 c50
    refine Wp.tin (off := 126) 6 127 d_S_about_1 c50 (by decide +kernel) (by decide +kernel) (by decide +kernel) (by decide +kernel) ?_
    refine Wp.aload_n 0 0 d_S_about_127 rfl rfl ?_
    refine Wp.getP 28 d_S_about_128 fl_S_46 rfl rfl rfl ?_
    refine Wq.getI 1 rfl d_S_about_131 fl_S_389 rfl (Or.inl rfl) ?_
    exact Wq.iret d_S_about_134 rfl H51
  obtain ⟨H52, H53⟩ := H49
  by_cases c54 : x1 = 7
  · have H55 := H52 c54
    refine Wp.tin (off := 134) 7 135 d_S_about_1 c54 (by decide +kernel) (by decide +kernel) (by decide +kernel) (by decide +kernel) ?_
    refine Wp.aload_n 0 0 d_S_about_135 rfl rfl ?_
    refine Wp.getP 28 d_S_about_136 fl_S_46 rfl rfl rfl ?_
    refine Wq.getI 2 rfl d_S_about_139 fl_S_392 rfl (Or.inl rfl) ?_
    refine Wp.aload_n 0 0 d_S_about_142 rfl rfl ?_
    refine Wp.getP 28 d_S_about_143 fl_S_46 rfl rfl rfl ?_
    refine Wq.getI 1 rfl d_S_about_146 fl_S_389 rfl (Or.inl rfl) ?_
    obtain ⟨s56, H57⟩ := H55
    refine Wp.isub d_S_about_149 s56 ?_
    exact Wq.iret d_S_about_150 rfl H57
  obtain ⟨H58, H59⟩ := H53
  by_cases c60 : x1 = 8
  · have H61 := H58 c60
    refine Wp.tin (off := 150) 8 151 d_S_about_1 c60 (by decide +kernel) (by decide +kernel) (by decide +kernel) (by decide +kernel) ?_
    refine Wp.aload_n 0 0 d_S_about_151 rfl rfl ?_
    refine Wp.getP 55 d_S_about_152 fl_S_84 rfl rfl rfl ?_
    refine Wq.getI 10 rfl d_S_about_155 fl_S_395 rfl (Or.inl rfl) ?_
    exact Wq.iret d_S_about_158 rfl H61
  obtain ⟨H62, H63⟩ := H59
  by_cases c64 : x1 = 9
  · have H65 := H62 c64
    refine Wp.tin (off := 158) 9 159 d_S_about_1 c64 (by decide +kernel) (by decide +kernel) (by decide +kernel) (by decide +kernel) ?_
    refine Wp.aload_n 0 0 d_S_about_159 rfl rfl ?_
    refine Wp.getP 55 d_S_about_160 fl_S_84 rfl rfl rfl ?_
    refine Wq.getI 11 rfl d_S_about_163 fl_S_396 rfl (Or.inl rfl) ?_
    exact Wq.iret d_S_about_166 rfl H65
  obtain ⟨H66, H67⟩ := H63
  by_cases c68 : x1 = 10
  · have H69 := H66 c68
    refine Wp.tin (off := 166) 10 167 d_S_about_1 c68 (by decide +kernel) (by decide +kernel) (by decide +kernel) (by decide +kernel) ?_
    refine Wp.aload_n 0 0 d_S_about_167 rfl rfl ?_
    refine Wq.getI 1 rfl d_S_about_168 fl_S_98 rfl (Or.inl rfl) ?_
    exact Wq.iret d_S_about_171 rfl H69
  obtain ⟨H70, H71⟩ := H67
  by_cases c72 : x1 = 11
  · have H73 := H70 c72
    refine Wp.tin (off := 171) 11 172 d_S_about_1 c72 (by decide +kernel) (by decide +kernel) (by decide +kernel) (by decide +kernel) ?_
    refine Wp.aload_n 0 0 d_S_about_172 rfl rfl ?_
    obtain ⟨b74, hb75, hB76, H77⟩ := H73
    refine Wp.getR b74 d_S_about_173 fl_S_27 rfl (Or.inl rfl) rfl hb75 ?_
    refine Wq.getI 4 rfl d_S_about_176 fl_S_399 (isB_lay hB76) (Or.inl rfl) ?_
    exact Wq.iret d_S_about_179 rfl H77
  obtain ⟨H78, H79⟩ := H71
  by_cases c80 : x1 = 12
  · have H81 := H78 c80
    refine Wp.tin (off := 179) 12 180 d_S_about_1 c80 (by decide +kernel) (by decide +kernel) (by decide +kernel) (by decide +kernel) ?_
    refine Wp.aload_n 0 0 d_S_about_180 rfl rfl ?_
    refine Wp.getP 67 d_S_about_181 fl_S_91 rfl rfl rfl ?_
    refine Wq.getI 1 rfl d_S_about_184 fl_S_358 rfl (Or.inl rfl) ?_
    exact Wq.iret d_S_about_187 rfl H81
  obtain ⟨H82, H83⟩ := H79
  by_cases c84 : x1 = 13
  · have H85 := H82 c84
    refine Wp.tin (off := 187) 13 188 d_S_about_1 c84 (by decide +kernel) (by decide +kernel) (by decide +kernel) (by decide +kernel) ?_
    refine Wp.aload_n 0 0 d_S_about_188 rfl rfl ?_
    obtain ⟨b86, hb87, hB88, H89⟩ := H85
    refine Wp.getR b86 d_S_about_189 fl_S_27 rfl (Or.inl rfl) rfl hb87 ?_
    refine Wq.getI 2 rfl d_S_about_192 fl_S_192 (isB_lay hB88) (Or.inl rfl) ?_
    exact Wq.iret d_S_about_195 rfl H89
  obtain ⟨H90, H91⟩ := H83
  by_cases c92 : x1 = 14
  · have H93 := H90 c92
    refine Wp.tin (off := 195) 14 196 d_S_about_1 c92 (by decide +kernel) (by decide +kernel) (by decide +kernel) (by decide +kernel) ?_
    refine Wp.aload_n 0 0 d_S_about_196 rfl rfl ?_
    obtain ⟨e94, P95, hd96, ho97, H98⟩ := H93
    refine Wq.VI (st := []) [] d_S_about_197 k_S_over ml_S_221 rfl rfl rfl (fun h => by cases h) (Nat.le_of_ble_eq_true rfl) hd96 ho97 (fun z100 m101 hp102 hz103 hw104 => ?_)
    have H99 := H98 z100 m101 hp102 hz103 hw104
    obtain ⟨H106, H107⟩ := H99
    refine Wp.if_ne 207 d_S_about_200 (by decide) (fun c105 => ?_) (fun c105 => ?_)
    · have H108 := H106 c105
      refine Wp.iconst d_S_about_207 (by decide) ?_
      exact Wq.iret d_S_about_208 rfl H108
    · have H109 := H107 c105
      refine Wp.iconst d_S_about_203 (by decide) ?_
      refine Wp.goto 208 d_S_about_204 (by decide) ?_
      exact Wq.iret d_S_about_208 rfl H109
  have H110 := H91 c3 c11 c19 c38 c42 c46 c50 c54 c60 c64 c68 c72 c80 c84 c92
  have ho1 : x1 < 0 ∨ 14 < x1 := (lt_or_geI x1 0).elim Or.inl (fun h9 => Or.inr (Int.lt_of_lt_of_le (by decide +kernel) (ne_step (ne_step (ne_step (ne_step (ne_step (ne_step (ne_step (ne_step (ne_step (ne_step (ne_step (ne_step (ne_step (ne_step (ne_step h9 c3) c11) c19) c38) c42) c46) c50) c54) c60) c64) c68) c72) c80) c84) c92)))
  refine Wp.tout 209 d_S_about_1 ho1 (by decide +kernel) ?_
  refine Wp.iconst d_S_about_209 (by decide) ?_
  exact Wq.iret d_S_about_210 rfl H110
