theorem d_M_bring_0 : decode Y_M_bring.2.1 0 = .ok (.iconst 0, 1) := by decide +kernel
theorem d_M_bring_1 : decode Y_M_bring.2.1 1 = .ok (.istore_n 1, 1) := by decide +kernel
theorem d_M_bring_2 : decode Y_M_bring.2.1 2 = .ok (.iload_n 1, 1) := by decide +kernel
theorem d_M_bring_3 : decode Y_M_bring.2.1 3 = .ok (.aload_n 0, 1) := by decide +kernel
theorem d_M_bring_4 : decode Y_M_bring.2.1 4 = .ok (.invokevirtual 338, 3) := by decide +kernel
theorem d_M_bring_7 : decode Y_M_bring.2.1 7 = .ok (.if_icmp .ge 23, 3) := by decide +kernel
theorem d_M_bring_10 : decode Y_M_bring.2.1 10 = .ok (.aload_n 0, 1) := by decide +kernel
theorem d_M_bring_11 : decode Y_M_bring.2.1 11 = .ok (.getfield 73, 3) := by decide +kernel
theorem d_M_bring_14 : decode Y_M_bring.2.1 14 = .ok (.iconst 0, 1) := by decide +kernel
theorem d_M_bring_15 : decode Y_M_bring.2.1 15 = .ok (.iload_n 1, 1) := by decide +kernel
theorem d_M_bring_16 : decode Y_M_bring.2.1 16 = .ok (.iadd, 1) := by decide +kernel
theorem d_M_bring_17 : decode Y_M_bring.2.1 17 = .ok (.aload_n 0, 1) := by decide +kernel
theorem d_M_bring_18 : decode Y_M_bring.2.1 18 = .ok (.getfield 82, 3) := by decide +kernel
theorem d_M_bring_21 : decode Y_M_bring.2.1 21 = .ok (.iload_n 1, 1) := by decide +kernel
theorem d_M_bring_22 : decode Y_M_bring.2.1 22 = .ok (.iaload, 1) := by decide +kernel
theorem d_M_bring_23 : decode Y_M_bring.2.1 23 = .ok (.iastore, 1) := by decide +kernel
theorem d_M_bring_24 : decode Y_M_bring.2.1 24 = .ok (.iinc 1 1, 3) := by decide +kernel
theorem d_M_bring_27 : decode Y_M_bring.2.1 27 = .ok (.goto (-25), 3) := by decide +kernel
theorem d_M_bring_30 : decode Y_M_bring.2.1 30 = .ok (.aload_n 0, 1) := by decide +kernel
theorem d_M_bring_31 : decode Y_M_bring.2.1 31 = .ok (.getfield 73, 3) := by decide +kernel
theorem d_M_bring_34 : decode Y_M_bring.2.1 34 = .ok (.iconst 5, 1) := by decide +kernel
theorem d_M_bring_35 : decode Y_M_bring.2.1 35 = .ok (.dup2, 1) := by decide +kernel
theorem d_M_bring_36 : decode Y_M_bring.2.1 36 = .ok (.iaload, 1) := by decide +kernel
theorem d_M_bring_37 : decode Y_M_bring.2.1 37 = .ok (.aload_n 0, 1) := by decide +kernel
theorem d_M_bring_38 : decode Y_M_bring.2.1 38 = .ok (.getfield 372, 3) := by decide +kernel
theorem d_M_bring_41 : decode Y_M_bring.2.1 41 = .ok (.iadd, 1) := by decide +kernel
theorem d_M_bring_42 : decode Y_M_bring.2.1 42 = .ok (.iastore, 1) := by decide +kernel
theorem d_M_bring_43 : decode Y_M_bring.2.1 43 = .ok (.return_, 1) := by decide +kernel
theorem e_M_bring {l : Launch} {G : GT} {d : Nat} {P : MM → Prop} {m : MM}   (H : wfM m → Wq l G false Y_M_bring d (QV P) 2 [(0, .inr (.inr 70)), (1, .inl 0)] [] m) : CV l G Y_M_bring d [.inr (.inr 70)] m P := by
  refine CV.of [(0, .inr (.inr 70))] k_M_bring.1 (Nat.le_of_ble_eq_true rfl) rfl (Wp.wf (fun hw _ hl hs => ?_))
  have H0 := H hw
  refine Wp.iconst d_M_bring_0 (by decide) ?_
  refine Wp.istore_n 1 [(0, .inr (.inr 70)), (1, .inl 0)] d_M_bring_1 rfl (by decide) rfl ?_
  exact H0
theorem s_M_bring_2 {l : Launch} {G : GT} {d : Nat} {P : MM → Prop} {m : MM} (x1 : Int)  (H : wfM m → inR x1 → ∃ (e1 : Nat) (P2 : Int → MM → Prop), e1 < d ∧ CI l G Y_M_lots e1 [.inr (.inr 70)] m P2 ∧ (∀ z7 m8, P2 z7 m8 → inR z7 → wfM m8 → ((x1 ≥ z7 → ((inR ((m8 90 5) + (m8 70 41))) ∧ (∀ m19, m19 = up m8 90 5 ((m8 90 5) + (m8 70 41)) → (P m19)))) ∧ (¬ (x1 ≥ z7) → ((inR (0 + x1)) ∧ ((0 ≤ x1 ∧ x1 < (5 : Int)) ∧ ((0 ≤ (0 + x1) ∧ (0 + x1) < (8 : Int)) ∧ (∀ m28, m28 = up m8 90 (0 + x1) (m8 93 x1) → ((inR (x1 + 1)) ∧ (Wq l G false Y_M_bring d (QV P) 2 [(0, .inr (.inr 70)), (1, .inl (x1 + 1))] [] m28)))))))))) : Wq l G false Y_M_bring d (QV P) 2 [(0, .inr (.inr 70)), (1, .inl x1)] [] m := by
  refine Wp.wf (fun hw _ hl hs => ?_)
  have H0 := H hw (hl _ (List.mem_of_getElem? (i := 1) rfl))
  refine Wp.iload_n 1 1 d_M_bring_2 rfl rfl ?_
  refine Wp.aload_n 0 0 d_M_bring_3 rfl rfl ?_
  obtain ⟨e1, P2, hd3, ho4, H5⟩ := H0
  refine Wq.VI (st := [.inl x1]) [] d_M_bring_4 k_M_lots ml_M_338 rfl rfl rfl (fun h => by cases h) (Nat.le_of_ble_eq_true rfl) hd3 ho4 (fun z7 m8 hp9 hz10 hw11 => ?_)
  have H6 := H5 z7 m8 hp9 hz10 hw11
  obtain ⟨H13, H14⟩ := H6
  refine Wp.icmp_ge 30 d_M_bring_7 (by decide) (fun c12 => ?_) (fun c12 => ?_)
  · have H15 := H13 c12
    refine Wp.aload_n 0 0 d_M_bring_30 rfl rfl ?_
    refine Wp.getP 90 d_M_bring_31 fl_M_73 rfl rfl rfl ?_
    refine Wp.iconst d_M_bring_34 (by decide) ?_
    refine Wp.dup2 d_M_bring_35 rfl rfl ?_
    refine Wp.iald d_M_bring_36 rfl (Or.inl rfl) (by decide) (by decide) ?_
    refine Wp.aload_n 0 0 d_M_bring_37 rfl rfl ?_
    refine Wq.getI 41 rfl d_M_bring_38 fl_M_372 rfl (Or.inl rfl) ?_
    obtain ⟨s17, H18⟩ := H15
    refine Wp.iadd d_M_bring_41 s17 ?_
    refine Wq.iast d_M_bring_42 rfl (by decide) (by decide) (fun m19 hm20 => ?_)
    have H21 := H18 m19 hm20
    exact Wq.vret d_M_bring_43 rfl H21
  · have H16 := H14 c12
    refine Wp.aload_n 0 0 d_M_bring_10 rfl rfl ?_
    refine Wp.getP 90 d_M_bring_11 fl_M_73 rfl rfl rfl ?_
    refine Wp.iconst d_M_bring_14 (by decide) ?_
    refine Wp.iload_n 1 1 d_M_bring_15 rfl rfl ?_
    obtain ⟨s24, H25⟩ := H16
    refine Wp.iadd d_M_bring_16 s24 ?_
    refine Wp.aload_n 0 0 d_M_bring_17 rfl rfl ?_
    refine Wp.getP 93 d_M_bring_18 fl_M_82 rfl rfl rfl ?_
    refine Wp.iload_n 1 1 d_M_bring_21 rfl rfl ?_
    obtain ⟨s26, H27⟩ := H25
    refine Wp.iald d_M_bring_22 rfl (Or.inl rfl) s26.1 s26.2 ?_
    obtain ⟨s35, H36⟩ := H27
    refine Wq.iast d_M_bring_23 rfl s35.1 s35.2 (fun m28 hm29 => ?_)
    have H30 := H36 m28 hm29
    obtain ⟨s33, H34⟩ := H30
    refine Wp.iinc 1 1 [(0, .inr (.inr 70)), (1, .inl (x1 + 1))] d_M_bring_24 rfl s33 (by decide) rfl ?_
    refine Wp.goto 2 d_M_bring_27 (by decide) ?_
    exact H34
theorem d_M_drop_0 : decode Y_M_drop.2.1 0 = .ok (.aload_n 0, 1) := by decide +kernel
theorem d_M_drop_1 : decode Y_M_drop.2.1 1 = .ok (.iload_n 1, 1) := by decide +kernel
theorem d_M_drop_2 : decode Y_M_drop.2.1 2 = .ok (.invokevirtual 405, 3) := by decide +kernel
theorem d_M_drop_5 : decode Y_M_drop.2.1 5 = .ok (.ifCond .eq 29, 3) := by decide +kernel
theorem d_M_drop_8 : decode Y_M_drop.2.1 8 = .ok (.iload_n 2, 1) := by decide +kernel
theorem d_M_drop_9 : decode Y_M_drop.2.1 9 = .ok (.iconst 1, 1) := by decide +kernel
theorem d_M_drop_10 : decode Y_M_drop.2.1 10 = .ok (.bipush 20, 2) := by decide +kernel
theorem d_M_drop_12 : decode Y_M_drop.2.1 12 = .ok (.invokestatic 341, 3) := by decide +kernel
theorem d_M_drop_15 : decode Y_M_drop.2.1 15 = .ok (.ifCond .eq 19, 3) := by decide +kernel
theorem d_M_drop_18 : decode Y_M_drop.2.1 18 = .ok (.aload_n 0, 1) := by decide +kernel
theorem d_M_drop_19 : decode Y_M_drop.2.1 19 = .ok (.getfield 73, 3) := by decide +kernel
theorem d_M_drop_22 : decode Y_M_drop.2.1 22 = .ok (.iconst 0, 1) := by decide +kernel
theorem d_M_drop_23 : decode Y_M_drop.2.1 23 = .ok (.iload_n 1, 1) := by decide +kernel
theorem d_M_drop_24 : decode Y_M_drop.2.1 24 = .ok (.iadd, 1) := by decide +kernel
theorem d_M_drop_25 : decode Y_M_drop.2.1 25 = .ok (.iaload, 1) := by decide +kernel
theorem d_M_drop_26 : decode Y_M_drop.2.1 26 = .ok (.iload_n 2, 1) := by decide +kernel
theorem d_M_drop_27 : decode Y_M_drop.2.1 27 = .ok (.iadd, 1) := by decide +kernel
theorem d_M_drop_28 : decode Y_M_drop.2.1 28 = .ok (.sipush 999, 3) := by decide +kernel
theorem d_M_drop_31 : decode Y_M_drop.2.1 31 = .ok (.if_icmp .le 5, 3) := by decide +kernel
theorem d_M_drop_34 : decode Y_M_drop.2.1 34 = .ok (.iconst (-1), 1) := by decide +kernel
theorem d_M_drop_35 : decode Y_M_drop.2.1 35 = .ok (.ireturn, 1) := by decide +kernel
theorem d_M_drop_36 : decode Y_M_drop.2.1 36 = .ok (.aload_n 0, 1) := by decide +kernel
theorem d_M_drop_37 : decode Y_M_drop.2.1 37 = .ok (.invokevirtual 414, 3) := by decide +kernel
theorem d_M_drop_40 : decode Y_M_drop.2.1 40 = .ok (.aload_n 0, 1) := by decide +kernel
theorem d_M_drop_41 : decode Y_M_drop.2.1 41 = .ok (.getfield 73, 3) := by decide +kernel
theorem d_M_drop_44 : decode Y_M_drop.2.1 44 = .ok (.iconst 0, 1) := by decide +kernel
theorem d_M_drop_45 : decode Y_M_drop.2.1 45 = .ok (.iload_n 1, 1) := by decide +kernel
theorem d_M_drop_46 : decode Y_M_drop.2.1 46 = .ok (.iadd, 1) := by decide +kernel
theorem d_M_drop_47 : decode Y_M_drop.2.1 47 = .ok (.dup2, 1) := by decide +kernel
theorem d_M_drop_48 : decode Y_M_drop.2.1 48 = .ok (.iaload, 1) := by decide +kernel
theorem d_M_drop_49 : decode Y_M_drop.2.1 49 = .ok (.iload_n 2, 1) := by decide +kernel
theorem d_M_drop_50 : decode Y_M_drop.2.1 50 = .ok (.iadd, 1) := by decide +kernel
theorem d_M_drop_51 : decode Y_M_drop.2.1 51 = .ok (.iastore, 1) := by decide +kernel
theorem d_M_drop_52 : decode Y_M_drop.2.1 52 = .ok (.aload_n 0, 1) := by decide +kernel
theorem d_M_drop_53 : decode Y_M_drop.2.1 53 = .ok (.getfield 73, 3) := by decide +kernel
theorem d_M_drop_56 : decode Y_M_drop.2.1 56 = .ok (.iconst 0, 1) := by decide +kernel
theorem d_M_drop_57 : decode Y_M_drop.2.1 57 = .ok (.iload_n 1, 1) := by decide +kernel
theorem d_M_drop_58 : decode Y_M_drop.2.1 58 = .ok (.iadd, 1) := by decide +kernel
theorem d_M_drop_59 : decode Y_M_drop.2.1 59 = .ok (.iaload, 1) := by decide +kernel
theorem d_M_drop_60 : decode Y_M_drop.2.1 60 = .ok (.ireturn, 1) := by decide +kernel
theorem e_M_drop {l : Launch} {G : GT} {d : Nat} {P : Int → MM → Prop} {m : MM} (x1 : Int) (x2 : Int)  (H : wfM m → inR x1 → inR x2 → ∃ (e1 : Nat) (P2 : Int → MM → Prop), e1 < d ∧ CI l G Y_M_isPlate e1 [.inr (.inr 70), .inl x1] m P2 ∧ (∀ z7 m8, P2 z7 m8 → inR z7 → wfM m8 → ((z7 = 0 → (P (-1) m8)) ∧ (¬ (z7 = 0) → (∃ (e17 : Nat) (P18 : Int → MM → Prop), e17 < d ∧ CI l G Y_M_isIn e17 [.inl x2, .inl 1, .inl 20] m8 P18 ∧ (∀ z23 m24, P18 z23 m24 → inR z23 → wfM m24 → ((z23 = 0 → (P (-1) m24)) ∧ (¬ (z23 = 0) → ((inR (0 + x1)) ∧ ((0 ≤ (0 + x1) ∧ (0 + x1) < (8 : Int)) ∧ ((inR ((m24 90 (0 + x1)) + x2)) ∧ ((((m24 90 (0 + x1)) + x2) ≤ 999 → (∃ (e44 : Nat) (P45 : MM → Prop), e44 < d ∧ CV l G Y_M_keepAct e44 [.inr (.inr 70)] m24 P45 ∧ (∀ m51, P45 m51 → wfM m51 → ((inR (0 + x1)) ∧ ((0 ≤ (0 + x1) ∧ (0 + x1) < (8 : Int)) ∧ ((inR ((m51 90 (0 + x1)) + x2)) ∧ ((0 ≤ (0 + x1) ∧ (0 + x1) < (8 : Int)) ∧ (∀ m61, m61 = up m51 90 (0 + x1) ((m51 90 (0 + x1)) + x2) → ((inR (0 + x1)) ∧ ((0 ≤ (0 + x1) ∧ (0 + x1) < (8 : Int)) ∧ (P (m61 90 (0 + x1)) m61))))))))))) ∧ (¬ (((m24 90 (0 + x1)) + x2) ≤ 999) → (P (-1) m24)))))))))))))) : CI l G Y_M_drop d [.inr (.inr 70), .inl x1, .inl x2] m P := by
  refine CI.of [(0, .inr (.inr 70)), (1, .inl x1), (2, .inl x2)] k_M_drop.1 (Nat.le_of_ble_eq_true rfl) rfl (Wp.wf (fun hw _ hl hs => ?_))
  have H0 := H hw (hl _ (List.mem_of_getElem? (i := 1) rfl)) (hl _ (List.mem_of_getElem? (i := 2) rfl))
  refine Wp.aload_n 0 0 d_M_drop_0 rfl rfl ?_
  refine Wp.iload_n 1 1 d_M_drop_1 rfl rfl ?_
  obtain ⟨e1, P2, hd3, ho4, H5⟩ := H0
  refine Wq.VI (st := []) [.inl x1] d_M_drop_2 k_M_isPlate ml_M_405 rfl rfl rfl (fun h => by cases h) (Nat.le_of_ble_eq_true rfl) hd3 ho4 (fun z7 m8 hp9 hz10 hw11 => ?_)
  have H6 := H5 z7 m8 hp9 hz10 hw11
  obtain ⟨H13, H14⟩ := H6
  refine Wp.if_eq 34 d_M_drop_5 (by decide) (fun c12 => ?_) (fun c12 => ?_)
  · have H15 := H13 c12
    refine Wp.iconst d_M_drop_34 (by decide) ?_
    exact Wq.iret d_M_drop_35 rfl H15
  · have H16 := H14 c12
    refine Wp.iload_n 2 2 d_M_drop_8 rfl rfl ?_
    refine Wp.iconst d_M_drop_9 (by decide) ?_
    refine Wp.bipush d_M_drop_10 (by decide) (by decide) ?_
    obtain ⟨e17, P18, hd19, ho20, H21⟩ := H16
    refine Wq.SI (st := []) [.inl x2, .inl 1, .inl 20] d_M_drop_12 k_M_isIn ml_M_341 rfl  (fun h => by cases h) (Nat.le_of_ble_eq_true rfl) hd19 ho20 (fun z23 m24 hp25 hz26 hw27 => ?_)
    have H22 := H21 z23 m24 hp25 hz26 hw27
    obtain ⟨H29, H30⟩ := H22
    refine Wp.if_eq 34 d_M_drop_15 (by decide) (fun c28 => ?_) (fun c28 => ?_)
    · have H31 := H29 c28
      refine Wp.iconst d_M_drop_34 (by decide) ?_
      exact Wq.iret d_M_drop_35 rfl H31
    · have H32 := H30 c28
      refine Wp.aload_n 0 0 d_M_drop_18 rfl rfl ?_
      refine Wp.getP 90 d_M_drop_19 fl_M_73 rfl rfl rfl ?_
      refine Wp.iconst d_M_drop_22 (by decide) ?_
      refine Wp.iload_n 1 1 d_M_drop_23 rfl rfl ?_
      obtain ⟨s33, H34⟩ := H32
      refine Wp.iadd d_M_drop_24 s33 ?_
      obtain ⟨s35, H36⟩ := H34
      refine Wp.iald d_M_drop_25 rfl (Or.inl rfl) s35.1 s35.2 ?_
      refine Wp.iload_n 2 2 d_M_drop_26 rfl rfl ?_
      obtain ⟨s37, H38⟩ := H36
      refine Wp.iadd d_M_drop_27 s37 ?_
      refine Wp.sipush d_M_drop_28 (by decide) (by decide) ?_
      obtain ⟨H40, H41⟩ := H38
      refine Wp.icmp_le 36 d_M_drop_31 (by decide) (fun c39 => ?_) (fun c39 => ?_)
      · have H42 := H40 c39
        refine Wp.aload_n 0 0 d_M_drop_36 rfl rfl ?_
        obtain ⟨e44, P45, hd46, ho47, H48⟩ := H42
        refine Wq.VV (st := []) [] d_M_drop_37 k_M_keepAct ml_M_414 rfl rfl rfl (fun h => by cases h) (Nat.le_of_ble_eq_true rfl) hd46 ho47 (fun m51 hp52 hw54 => ?_)
        have H49 := H48 m51 hp52 hw54
        refine Wp.aload_n 0 0 d_M_drop_40 rfl rfl ?_
        refine Wp.getP 90 d_M_drop_41 fl_M_73 rfl rfl rfl ?_
        refine Wp.iconst d_M_drop_44 (by decide) ?_
        refine Wp.iload_n 1 1 d_M_drop_45 rfl rfl ?_
        obtain ⟨s55, H56⟩ := H49
        refine Wp.iadd d_M_drop_46 s55 ?_
        refine Wp.dup2 d_M_drop_47 rfl rfl ?_
        obtain ⟨s57, H58⟩ := H56
        refine Wp.iald d_M_drop_48 rfl (Or.inl rfl) s57.1 s57.2 ?_
        refine Wp.iload_n 2 2 d_M_drop_49 rfl rfl ?_
        obtain ⟨s59, H60⟩ := H58
        refine Wp.iadd d_M_drop_50 s59 ?_
        obtain ⟨s70, H71⟩ := H60
        refine Wq.iast d_M_drop_51 rfl s70.1 s70.2 (fun m61 hm62 => ?_)
        have H63 := H71 m61 hm62
        refine Wp.aload_n 0 0 d_M_drop_52 rfl rfl ?_
        refine Wp.getP 90 d_M_drop_53 fl_M_73 rfl rfl rfl ?_
        refine Wp.iconst d_M_drop_56 (by decide) ?_
        refine Wp.iload_n 1 1 d_M_drop_57 rfl rfl ?_
        obtain ⟨s66, H67⟩ := H63
        refine Wp.iadd d_M_drop_58 s66 ?_
        obtain ⟨s68, H69⟩ := H67
        refine Wp.iald d_M_drop_59 rfl (Or.inl rfl) s68.1 s68.2 ?_
        exact Wq.iret d_M_drop_60 rfl H69
      · have H43 := H41 c39
        refine Wp.iconst d_M_drop_34 (by decide) ?_
        exact Wq.iret d_M_drop_35 rfl H43
theorem d_M_topple_0 : decode Y_M_topple.2.1 0 = .ok (.aload_n 0, 1) := by decide +kernel
theorem d_M_topple_1 : decode Y_M_topple.2.1 1 = .ok (.iload_n 1, 1) := by decide +kernel
theorem d_M_topple_2 : decode Y_M_topple.2.1 2 = .ok (.invokevirtual 405, 3) := by decide +kernel
theorem d_M_topple_5 : decode Y_M_topple.2.1 5 = .ok (.ifCond .eq 19, 3) := by decide +kernel
theorem d_M_topple_8 : decode Y_M_topple.2.1 8 = .ok (.aload_n 0, 1) := by decide +kernel
theorem d_M_topple_9 : decode Y_M_topple.2.1 9 = .ok (.getfield 73, 3) := by decide +kernel
theorem d_M_topple_12 : decode Y_M_topple.2.1 12 = .ok (.iconst 0, 1) := by decide +kernel
theorem d_M_topple_13 : decode Y_M_topple.2.1 13 = .ok (.iload_n 1, 1) := by decide +kernel
theorem d_M_topple_14 : decode Y_M_topple.2.1 14 = .ok (.iadd, 1) := by decide +kernel
theorem d_M_topple_15 : decode Y_M_topple.2.1 15 = .ok (.iaload, 1) := by decide +kernel
theorem d_M_topple_16 : decode Y_M_topple.2.1 16 = .ok (.aload_n 0, 1) := by decide +kernel
theorem d_M_topple_17 : decode Y_M_topple.2.1 17 = .ok (.iload_n 1, 1) := by decide +kernel
theorem d_M_topple_18 : decode Y_M_topple.2.1 18 = .ok (.invokevirtual 328, 3) := by decide +kernel
theorem d_M_topple_21 : decode Y_M_topple.2.1 21 = .ok (.if_icmp .ge 5, 3) := by decide +kernel
theorem d_M_topple_24 : decode Y_M_topple.2.1 24 = .ok (.iconst (-1), 1) := by decide +kernel
theorem d_M_topple_25 : decode Y_M_topple.2.1 25 = .ok (.ireturn, 1) := by decide +kernel
theorem d_M_topple_26 : decode Y_M_topple.2.1 26 = .ok (.aload_n 0, 1) := by decide +kernel
theorem d_M_topple_27 : decode Y_M_topple.2.1 27 = .ok (.invokevirtual 414, 3) := by decide +kernel
theorem d_M_topple_30 : decode Y_M_topple.2.1 30 = .ok (.aload_n 0, 1) := by decide +kernel
theorem d_M_topple_31 : decode Y_M_topple.2.1 31 = .ok (.invokevirtual 378, 3) := by decide +kernel
theorem d_M_topple_34 : decode Y_M_topple.2.1 34 = .ok (.aload_n 0, 1) := by decide +kernel
theorem d_M_topple_35 : decode Y_M_topple.2.1 35 = .ok (.iconst 0, 1) := by decide +kernel
theorem d_M_topple_36 : decode Y_M_topple.2.1 36 = .ok (.putfield 372, 3) := by decide +kernel
theorem d_M_topple_39 : decode Y_M_topple.2.1 39 = .ok (.aload_n 0, 1) := by decide +kernel
theorem d_M_topple_40 : decode Y_M_topple.2.1 40 = .ok (.iload_n 1, 1) := by decide +kernel
theorem d_M_topple_41 : decode Y_M_topple.2.1 41 = .ok (.iconst 1, 1) := by decide +kernel
theorem d_M_topple_42 : decode Y_M_topple.2.1 42 = .ok (.invokevirtual 375, 3) := by decide +kernel
theorem d_M_topple_45 : decode Y_M_topple.2.1 45 = .ok (.aload_n 0, 1) := by decide +kernel
theorem d_M_topple_46 : decode Y_M_topple.2.1 46 = .ok (.invokevirtual 402, 3) := by decide +kernel
theorem d_M_topple_49 : decode Y_M_topple.2.1 49 = .ok (.aload_n 0, 1) := by decide +kernel
theorem d_M_topple_50 : decode Y_M_topple.2.1 50 = .ok (.getfield 73, 3) := by decide +kernel
theorem d_M_topple_53 : decode Y_M_topple.2.1 53 = .ok (.iconst 0, 1) := by decide +kernel
theorem d_M_topple_54 : decode Y_M_topple.2.1 54 = .ok (.iload_n 1, 1) := by decide +kernel
theorem d_M_topple_55 : decode Y_M_topple.2.1 55 = .ok (.iadd, 1) := by decide +kernel
theorem d_M_topple_56 : decode Y_M_topple.2.1 56 = .ok (.iaload, 1) := by decide +kernel
theorem d_M_topple_57 : decode Y_M_topple.2.1 57 = .ok (.ireturn, 1) := by decide +kernel
theorem e_M_topple {l : Launch} {G : GT} {d : Nat} {P : Int → MM → Prop} {m : MM} (x1 : Int)  (H : wfM m → inR x1 → ∃ (e1 : Nat) (P2 : Int → MM → Prop), e1 < d ∧ CI l G Y_M_isPlate e1 [.inr (.inr 70), .inl x1] m P2 ∧ (∀ z7 m8, P2 z7 m8 → inR z7 → wfM m8 → ((z7 = 0 → (P (-1) m8)) ∧ (¬ (z7 = 0) → ((inR (0 + x1)) ∧ ((0 ≤ (0 + x1) ∧ (0 + x1) < (8 : Int)) ∧ (∃ (e21 : Nat) (P22 : Int → MM → Prop), e21 < d ∧ CI l G Y_M_brimOf e21 [.inr (.inr 70), .inl x1] m8 P22 ∧ (∀ z27 m28, P22 z27 m28 → inR z27 → wfM m28 → (((m8 90 (0 + x1)) ≥ z27 → (∃ (e37 : Nat) (P38 : MM → Prop), e37 < d ∧ CV l G Y_M_keepAct e37 [.inr (.inr 70)] m28 P38 ∧ (∀ m44, P38 m44 → wfM m44 → (∃ (e48 : Nat) (P49 : MM → Prop), e48 < d ∧ CV l G Y_M_layNow e48 [.inr (.inr 70)] m44 P49 ∧ (∀ m55, P49 m55 → wfM m55 → (∀ m59, m59 = up m55 70 41 0 → (∃ (e62 : Nat) (P63 : MM → Prop), e62 < d ∧ CV l G Y_M_toppleIn e62 [.inr (.inr 70), .inl x1, .inl 1] m59 P63 ∧ (∀ m69, P63 m69 → wfM m69 → (∃ (e73 : Nat) (P74 : MM → Prop), e73 < d ∧ CV l G Y_M_bring e73 [.inr (.inr 70)] m69 P74 ∧ (∀ m80, P74 m80 → wfM m80 → ((inR (0 + x1)) ∧ ((0 ≤ (0 + x1) ∧ (0 + x1) < (8 : Int)) ∧ (P (m80 90 (0 + x1)) m80))))))))))))) ∧ (¬ ((m8 90 (0 + x1)) ≥ z27) → (P (-1) m28))))))))))) : CI l G Y_M_topple d [.inr (.inr 70), .inl x1] m P := by
  refine CI.of [(0, .inr (.inr 70)), (1, .inl x1)] k_M_topple.1 (Nat.le_of_ble_eq_true rfl) rfl (Wp.wf (fun hw _ hl hs => ?_))
  have H0 := H hw (hl _ (List.mem_of_getElem? (i := 1) rfl))
  refine Wp.aload_n 0 0 d_M_topple_0 rfl rfl ?_
  refine Wp.iload_n 1 1 d_M_topple_1 rfl rfl ?_
  obtain ⟨e1, P2, hd3, ho4, H5⟩ := H0
  refine Wq.VI (st := []) [.inl x1] d_M_topple_2 k_M_isPlate ml_M_405 rfl rfl rfl (fun h => by cases h) (Nat.le_of_ble_eq_true rfl) hd3 ho4 (fun z7 m8 hp9 hz10 hw11 => ?_)
  have H6 := H5 z7 m8 hp9 hz10 hw11
  obtain ⟨H13, H14⟩ := H6
  refine Wp.if_eq 24 d_M_topple_5 (by decide) (fun c12 => ?_) (fun c12 => ?_)
  · have H15 := H13 c12
    refine Wp.iconst d_M_topple_24 (by decide) ?_
    exact Wq.iret d_M_topple_25 rfl H15
  · have H16 := H14 c12
    refine Wp.aload_n 0 0 d_M_topple_8 rfl rfl ?_
    refine Wp.getP 90 d_M_topple_9 fl_M_73 rfl rfl rfl ?_
    refine Wp.iconst d_M_topple_12 (by decide) ?_
    refine Wp.iload_n 1 1 d_M_topple_13 rfl rfl ?_
    obtain ⟨s17, H18⟩ := H16
    refine Wp.iadd d_M_topple_14 s17 ?_
    obtain ⟨s19, H20⟩ := H18
    refine Wp.iald d_M_topple_15 rfl (Or.inl rfl) s19.1 s19.2 ?_
    refine Wp.aload_n 0 0 d_M_topple_16 rfl rfl ?_
    refine Wp.iload_n 1 1 d_M_topple_17 rfl rfl ?_
    obtain ⟨e21, P22, hd23, ho24, H25⟩ := H20
    refine Wq.VI (st := [.inl (m8 90 (0 + x1))]) [.inl x1] d_M_topple_18 k_M_brimOf ml_M_328 rfl rfl rfl (fun h => by cases h) (Nat.le_of_ble_eq_true rfl) hd23 ho24 (fun z27 m28 hp29 hz30 hw31 => ?_)
    have H26 := H25 z27 m28 hp29 hz30 hw31
    obtain ⟨H33, H34⟩ := H26
    refine Wp.icmp_ge 26 d_M_topple_21 (by decide) (fun c32 => ?_) (fun c32 => ?_)
    · have H35 := H33 c32
      refine Wp.aload_n 0 0 d_M_topple_26 rfl rfl ?_
      obtain ⟨e37, P38, hd39, ho40, H41⟩ := H35
      refine Wq.VV (st := []) [] d_M_topple_27 k_M_keepAct ml_M_414 rfl rfl rfl (fun h => by cases h) (Nat.le_of_ble_eq_true rfl) hd39 ho40 (fun m44 hp45 hw47 => ?_)
      have H42 := H41 m44 hp45 hw47
      refine Wp.aload_n 0 0 d_M_topple_30 rfl rfl ?_
      obtain ⟨e48, P49, hd50, ho51, H52⟩ := H42
      refine Wq.VV (st := []) [] d_M_topple_31 k_M_layNow ml_M_378 rfl rfl rfl (fun h => by cases h) (Nat.le_of_ble_eq_true rfl) hd50 ho51 (fun m55 hp56 hw58 => ?_)
      have H53 := H52 m55 hp56 hw58
      refine Wp.aload_n 0 0 d_M_topple_34 rfl rfl ?_
      refine Wp.iconst d_M_topple_35 (by decide) ?_
      refine Wq.putI 41 rfl d_M_topple_36 fl_M_372 (fun _ _ _ h => by cases h; rfl) rfl rfl rfl (fun m59 hm60 => ?_)
      have H61 := H53 m59 hm60
      refine Wp.aload_n 0 0 d_M_topple_39 rfl rfl ?_
      refine Wp.iload_n 1 1 d_M_topple_40 rfl rfl ?_
      refine Wp.iconst d_M_topple_41 (by decide) ?_
      obtain ⟨e62, P63, hd64, ho65, H66⟩ := H61
      refine Wq.VV (st := []) [.inl x1, .inl 1] d_M_topple_42 k_M_toppleIn ml_M_375 rfl rfl rfl (fun h => by cases h) (Nat.le_of_ble_eq_true rfl) hd64 ho65 (fun m69 hp70 hw72 => ?_)
      have H67 := H66 m69 hp70 hw72
      refine Wp.aload_n 0 0 d_M_topple_45 rfl rfl ?_
      obtain ⟨e73, P74, hd75, ho76, H77⟩ := H67
      refine Wq.VV (st := []) [] d_M_topple_46 k_M_bring ml_M_402 rfl rfl rfl (fun h => by cases h) (Nat.le_of_ble_eq_true rfl) hd75 ho76 (fun m80 hp81 hw83 => ?_)
      have H78 := H77 m80 hp81 hw83
      refine Wp.aload_n 0 0 d_M_topple_49 rfl rfl ?_
      refine Wp.getP 90 d_M_topple_50 fl_M_73 rfl rfl rfl ?_
      refine Wp.iconst d_M_topple_53 (by decide) ?_
      refine Wp.iload_n 1 1 d_M_topple_54 rfl rfl ?_
      obtain ⟨s84, H85⟩ := H78
      refine Wp.iadd d_M_topple_55 s84 ?_
      obtain ⟨s86, H87⟩ := H85
      refine Wp.iald d_M_topple_56 rfl (Or.inl rfl) s86.1 s86.2 ?_
      exact Wq.iret d_M_topple_57 rfl H87
    · have H36 := H34 c32
      refine Wp.iconst d_M_topple_24 (by decide) ?_
      exact Wq.iret d_M_topple_25 rfl H36
theorem d_M_settle_0 : decode Y_M_settle.2.1 0 = .ok (.aload_n 0, 1) := by decide +kernel
theorem d_M_settle_1 : decode Y_M_settle.2.1 1 = .ok (.invokevirtual 421, 3) := by decide +kernel
theorem d_M_settle_4 : decode Y_M_settle.2.1 4 = .ok (.ifCond .ne 5, 3) := by decide +kernel
theorem d_M_settle_7 : decode Y_M_settle.2.1 7 = .ok (.iconst (-1), 1) := by decide +kernel
theorem d_M_settle_8 : decode Y_M_settle.2.1 8 = .ok (.ireturn, 1) := by decide +kernel
theorem d_M_settle_9 : decode Y_M_settle.2.1 9 = .ok (.aload_n 0, 1) := by decide +kernel
theorem d_M_settle_10 : decode Y_M_settle.2.1 10 = .ok (.invokevirtual 414, 3) := by decide +kernel
theorem d_M_settle_13 : decode Y_M_settle.2.1 13 = .ok (.aload_n 0, 1) := by decide +kernel
theorem d_M_settle_14 : decode Y_M_settle.2.1 14 = .ok (.invokevirtual 378, 3) := by decide +kernel
theorem d_M_settle_17 : decode Y_M_settle.2.1 17 = .ok (.aload_n 0, 1) := by decide +kernel
theorem d_M_settle_18 : decode Y_M_settle.2.1 18 = .ok (.invokevirtual 381, 3) := by decide +kernel
theorem d_M_settle_21 : decode Y_M_settle.2.1 21 = .ok (.istore_n 1, 1) := by decide +kernel
theorem d_M_settle_22 : decode Y_M_settle.2.1 22 = .ok (.aload_n 0, 1) := by decide +kernel
theorem d_M_settle_23 : decode Y_M_settle.2.1 23 = .ok (.invokevirtual 402, 3) := by decide +kernel
theorem d_M_settle_26 : decode Y_M_settle.2.1 26 = .ok (.iload_n 1, 1) := by decide +kernel
theorem d_M_settle_27 : decode Y_M_settle.2.1 27 = .ok (.ireturn, 1) := by decide +kernel
theorem e_M_settle {l : Launch} {G : GT} {d : Nat} {P : Int → MM → Prop} {m : MM}   (H : wfM m → ∃ (e1 : Nat) (P2 : Int → MM → Prop), e1 < d ∧ CI l G Y_M_over e1 [.inr (.inr 70)] m P2 ∧ (∀ z7 m8, P2 z7 m8 → inR z7 → wfM m8 → ((z7 ≠ 0 → (∃ (e17 : Nat) (P18 : MM → Prop), e17 < d ∧ CV l G Y_M_keepAct e17 [.inr (.inr 70)] m8 P18 ∧ (∀ m24, P18 m24 → wfM m24 → (∃ (e28 : Nat) (P29 : MM → Prop), e28 < d ∧ CV l G Y_M_layNow e28 [.inr (.inr 70)] m24 P29 ∧ (∀ m35, P29 m35 → wfM m35 → (∃ (e39 : Nat) (P40 : Int → MM → Prop), e39 < d ∧ CI l G Y_M_settleHeap e39 [.inr (.inr 70)] m35 P40 ∧ (∀ z45 m46, P40 z45 m46 → inR z45 → wfM m46 → (∃ (e50 : Nat) (P51 : MM → Prop), e50 < d ∧ CV l G Y_M_bring e50 [.inr (.inr 70)] m46 P51 ∧ (∀ m57, P51 m57 → wfM m57 → (P z45 m57)))))))))) ∧ (¬ (z7 ≠ 0) → (P (-1) m8))))) : CI l G Y_M_settle d [.inr (.inr 70)] m P := by
  refine CI.of [(0, .inr (.inr 70))] k_M_settle.1 (Nat.le_of_ble_eq_true rfl) rfl (Wp.wf (fun hw _ hl hs => ?_))
  have H0 := H hw
  refine Wp.aload_n 0 0 d_M_settle_0 rfl rfl ?_
  obtain ⟨e1, P2, hd3, ho4, H5⟩ := H0
  refine Wq.VI (st := []) [] d_M_settle_1 k_M_over ml_M_421 rfl rfl rfl (fun h => by cases h) (Nat.le_of_ble_eq_true rfl) hd3 ho4 (fun z7 m8 hp9 hz10 hw11 => ?_)
  have H6 := H5 z7 m8 hp9 hz10 hw11
  obtain ⟨H13, H14⟩ := H6
  refine Wp.if_ne 9 d_M_settle_4 (by decide) (fun c12 => ?_) (fun c12 => ?_)
  · have H15 := H13 c12
    refine Wp.aload_n 0 0 d_M_settle_9 rfl rfl ?_
    obtain ⟨e17, P18, hd19, ho20, H21⟩ := H15
    refine Wq.VV (st := []) [] d_M_settle_10 k_M_keepAct ml_M_414 rfl rfl rfl (fun h => by cases h) (Nat.le_of_ble_eq_true rfl) hd19 ho20 (fun m24 hp25 hw27 => ?_)
    have H22 := H21 m24 hp25 hw27
    refine Wp.aload_n 0 0 d_M_settle_13 rfl rfl ?_
    obtain ⟨e28, P29, hd30, ho31, H32⟩ := H22
    refine Wq.VV (st := []) [] d_M_settle_14 k_M_layNow ml_M_378 rfl rfl rfl (fun h => by cases h) (Nat.le_of_ble_eq_true rfl) hd30 ho31 (fun m35 hp36 hw38 => ?_)
    have H33 := H32 m35 hp36 hw38
    refine Wp.aload_n 0 0 d_M_settle_17 rfl rfl ?_
    obtain ⟨e39, P40, hd41, ho42, H43⟩ := H33
    refine Wq.VI (st := []) [] d_M_settle_18 k_M_settleHeap ml_M_381 rfl rfl rfl (fun h => by cases h) (Nat.le_of_ble_eq_true rfl) hd41 ho42 (fun z45 m46 hp47 hz48 hw49 => ?_)
    have H44 := H43 z45 m46 hp47 hz48 hw49
    refine Wp.istore_n 1 [(0, .inr (.inr 70)), (1, .inl z45)] d_M_settle_21 rfl (by decide) rfl ?_
    refine Wp.aload_n 0 0 d_M_settle_22 rfl rfl ?_
    obtain ⟨e50, P51, hd52, ho53, H54⟩ := H44
    refine Wq.VV (st := []) [] d_M_settle_23 k_M_bring ml_M_402 rfl rfl rfl (fun h => by cases h) (Nat.le_of_ble_eq_true rfl) hd52 ho53 (fun m57 hp58 hw60 => ?_)
    have H55 := H54 m57 hp58 hw60
    refine Wp.iload_n 1 1 d_M_settle_26 rfl rfl ?_
    exact Wq.iret d_M_settle_27 rfl H55
  · have H16 := H14 c12
    refine Wp.iconst d_M_settle_7 (by decide) ?_
    exact Wq.iret d_M_settle_8 rfl H16
theorem d_M_sweep_0 : decode Y_M_sweep.2.1 0 = .ok (.aload_n 0, 1) := by decide +kernel
theorem d_M_sweep_1 : decode Y_M_sweep.2.1 1 = .ok (.iload_n 1, 1) := by decide +kernel
theorem d_M_sweep_2 : decode Y_M_sweep.2.1 2 = .ok (.invokevirtual 405, 3) := by decide +kernel
theorem d_M_sweep_5 : decode Y_M_sweep.2.1 5 = .ok (.ifCond .eq 14, 3) := by decide +kernel
theorem d_M_sweep_8 : decode Y_M_sweep.2.1 8 = .ok (.aload_n 0, 1) := by decide +kernel
theorem d_M_sweep_9 : decode Y_M_sweep.2.1 9 = .ok (.getfield 73, 3) := by decide +kernel
theorem d_M_sweep_12 : decode Y_M_sweep.2.1 12 = .ok (.iconst 0, 1) := by decide +kernel
theorem d_M_sweep_13 : decode Y_M_sweep.2.1 13 = .ok (.iload_n 1, 1) := by decide +kernel
theorem d_M_sweep_14 : decode Y_M_sweep.2.1 14 = .ok (.iadd, 1) := by decide +kernel
theorem d_M_sweep_15 : decode Y_M_sweep.2.1 15 = .ok (.iaload, 1) := by decide +kernel
theorem d_M_sweep_16 : decode Y_M_sweep.2.1 16 = .ok (.ifCond .ne 5, 3) := by decide +kernel
theorem d_M_sweep_19 : decode Y_M_sweep.2.1 19 = .ok (.iconst (-1), 1) := by decide +kernel
theorem d_M_sweep_20 : decode Y_M_sweep.2.1 20 = .ok (.ireturn, 1) := by decide +kernel
theorem d_M_sweep_21 : decode Y_M_sweep.2.1 21 = .ok (.aload_n 0, 1) := by decide +kernel
theorem d_M_sweep_22 : decode Y_M_sweep.2.1 22 = .ok (.invokevirtual 414, 3) := by decide +kernel
theorem d_M_sweep_25 : decode Y_M_sweep.2.1 25 = .ok (.aload_n 0, 1) := by decide +kernel
theorem d_M_sweep_26 : decode Y_M_sweep.2.1 26 = .ok (.getfield 73, 3) := by decide +kernel
theorem d_M_sweep_29 : decode Y_M_sweep.2.1 29 = .ok (.iconst 0, 1) := by decide +kernel
theorem d_M_sweep_30 : decode Y_M_sweep.2.1 30 = .ok (.iload_n 1, 1) := by decide +kernel
theorem d_M_sweep_31 : decode Y_M_sweep.2.1 31 = .ok (.iadd, 1) := by decide +kernel
theorem d_M_sweep_32 : decode Y_M_sweep.2.1 32 = .ok (.iaload, 1) := by decide +kernel
theorem d_M_sweep_33 : decode Y_M_sweep.2.1 33 = .ok (.istore_n 2, 1) := by decide +kernel
theorem d_M_sweep_34 : decode Y_M_sweep.2.1 34 = .ok (.aload_n 0, 1) := by decide +kernel
theorem d_M_sweep_35 : decode Y_M_sweep.2.1 35 = .ok (.getfield 73, 3) := by decide +kernel
theorem d_M_sweep_38 : decode Y_M_sweep.2.1 38 = .ok (.iconst 0, 1) := by decide +kernel
theorem d_M_sweep_39 : decode Y_M_sweep.2.1 39 = .ok (.iload_n 1, 1) := by decide +kernel
theorem d_M_sweep_40 : decode Y_M_sweep.2.1 40 = .ok (.iadd, 1) := by decide +kernel
theorem d_M_sweep_41 : decode Y_M_sweep.2.1 41 = .ok (.iconst 0, 1) := by decide +kernel
theorem d_M_sweep_42 : decode Y_M_sweep.2.1 42 = .ok (.iastore, 1) := by decide +kernel
theorem d_M_sweep_43 : decode Y_M_sweep.2.1 43 = .ok (.iload_n 2, 1) := by decide +kernel
theorem d_M_sweep_44 : decode Y_M_sweep.2.1 44 = .ok (.ireturn, 1) := by decide +kernel
theorem e_M_sweep {l : Launch} {G : GT} {d : Nat} {P : Int → MM → Prop} {m : MM} (x1 : Int)  (H : wfM m → inR x1 → ∃ (e1 : Nat) (P2 : Int → MM → Prop), e1 < d ∧ CI l G Y_M_isPlate e1 [.inr (.inr 70), .inl x1] m P2 ∧ (∀ z7 m8, P2 z7 m8 → inR z7 → wfM m8 → ((z7 = 0 → (P (-1) m8)) ∧ (¬ (z7 = 0) → ((inR (0 + x1)) ∧ ((0 ≤ (0 + x1) ∧ (0 + x1) < (8 : Int)) ∧ (((m8 90 (0 + x1)) ≠ 0 → (∃ (e26 : Nat) (P27 : MM → Prop), e26 < d ∧ CV l G Y_M_keepAct e26 [.inr (.inr 70)] m8 P27 ∧ (∀ m33, P27 m33 → wfM m33 → ((inR (0 + x1)) ∧ ((0 ≤ (0 + x1) ∧ (0 + x1) < (8 : Int)) ∧ ((inR (0 + x1)) ∧ ((0 ≤ (0 + x1) ∧ (0 + x1) < (8 : Int)) ∧ (∀ m43, m43 = up m33 90 (0 + x1) 0 → (P (m33 90 (0 + x1)) m43))))))))) ∧ (¬ ((m8 90 (0 + x1)) ≠ 0) → (P (-1) m8))))))))) : CI l G Y_M_sweep d [.inr (.inr 70), .inl x1] m P := by
  refine CI.of [(0, .inr (.inr 70)), (1, .inl x1)] k_M_sweep.1 (Nat.le_of_ble_eq_true rfl) rfl (Wp.wf (fun hw _ hl hs => ?_))
  have H0 := H hw (hl _ (List.mem_of_getElem? (i := 1) rfl))
  refine Wp.aload_n 0 0 d_M_sweep_0 rfl rfl ?_
  refine Wp.iload_n 1 1 d_M_sweep_1 rfl rfl ?_
  obtain ⟨e1, P2, hd3, ho4, H5⟩ := H0
  refine Wq.VI (st := []) [.inl x1] d_M_sweep_2 k_M_isPlate ml_M_405 rfl rfl rfl (fun h => by cases h) (Nat.le_of_ble_eq_true rfl) hd3 ho4 (fun z7 m8 hp9 hz10 hw11 => ?_)
  have H6 := H5 z7 m8 hp9 hz10 hw11
  obtain ⟨H13, H14⟩ := H6
  refine Wp.if_eq 19 d_M_sweep_5 (by decide) (fun c12 => ?_) (fun c12 => ?_)
  · have H15 := H13 c12
    refine Wp.iconst d_M_sweep_19 (by decide) ?_
    exact Wq.iret d_M_sweep_20 rfl H15
  · have H16 := H14 c12
    refine Wp.aload_n 0 0 d_M_sweep_8 rfl rfl ?_
    refine Wp.getP 90 d_M_sweep_9 fl_M_73 rfl rfl rfl ?_
    refine Wp.iconst d_M_sweep_12 (by decide) ?_
    refine Wp.iload_n 1 1 d_M_sweep_13 rfl rfl ?_
    obtain ⟨s17, H18⟩ := H16
    refine Wp.iadd d_M_sweep_14 s17 ?_
    obtain ⟨s19, H20⟩ := H18
    refine Wp.iald d_M_sweep_15 rfl (Or.inl rfl) s19.1 s19.2 ?_
    obtain ⟨H22, H23⟩ := H20
    refine Wp.if_ne 21 d_M_sweep_16 (by decide) (fun c21 => ?_) (fun c21 => ?_)
    · have H24 := H22 c21
      refine Wp.aload_n 0 0 d_M_sweep_21 rfl rfl ?_
      obtain ⟨e26, P27, hd28, ho29, H30⟩ := H24
      refine Wq.VV (st := []) [] d_M_sweep_22 k_M_keepAct ml_M_414 rfl rfl rfl (fun h => by cases h) (Nat.le_of_ble_eq_true rfl) hd28 ho29 (fun m33 hp34 hw36 => ?_)
      have H31 := H30 m33 hp34 hw36
      refine Wp.aload_n 0 0 d_M_sweep_25 rfl rfl ?_
      refine Wp.getP 90 d_M_sweep_26 fl_M_73 rfl rfl rfl ?_
      refine Wp.iconst d_M_sweep_29 (by decide) ?_
      refine Wp.iload_n 1 1 d_M_sweep_30 rfl rfl ?_
      obtain ⟨s37, H38⟩ := H31
      refine Wp.iadd d_M_sweep_31 s37 ?_
      obtain ⟨s39, H40⟩ := H38
      refine Wp.iald d_M_sweep_32 rfl (Or.inl rfl) s39.1 s39.2 ?_
      refine Wp.istore_n 2 [(0, .inr (.inr 70)), (1, .inl x1), (2, .inl (m33 90 (0 + x1)))] d_M_sweep_33 rfl (by decide) rfl ?_
      refine Wp.aload_n 0 0 d_M_sweep_34 rfl rfl ?_
      refine Wp.getP 90 d_M_sweep_35 fl_M_73 rfl rfl rfl ?_
      refine Wp.iconst d_M_sweep_38 (by decide) ?_
      refine Wp.iload_n 1 1 d_M_sweep_39 rfl rfl ?_
      obtain ⟨s41, H42⟩ := H40
      refine Wp.iadd d_M_sweep_40 s41 ?_
      refine Wp.iconst d_M_sweep_41 (by decide) ?_
      obtain ⟨s48, H49⟩ := H42
      refine Wq.iast d_M_sweep_42 rfl s48.1 s48.2 (fun m43 hm44 => ?_)
      have H45 := H49 m43 hm44
      refine Wp.iload_n 2 2 d_M_sweep_43 rfl rfl ?_
      exact Wq.iret d_M_sweep_44 rfl H45
    · have H25 := H23 c21
      refine Wp.iconst d_M_sweep_19 (by decide) ?_
      exact Wq.iret d_M_sweep_20 rfl H25
theorem d_M_undo_0 : decode Y_M_undo.2.1 0 = .ok (.aload_n 0, 1) := by decide +kernel
theorem d_M_undo_1 : decode Y_M_undo.2.1 1 = .ok (.getfield 360, 3) := by decide +kernel
theorem d_M_undo_4 : decode Y_M_undo.2.1 4 = .ok (.ifCond .ne 5, 3) := by decide +kernel
theorem d_M_undo_7 : decode Y_M_undo.2.1 7 = .ok (.iconst 0, 1) := by decide +kernel
theorem d_M_undo_8 : decode Y_M_undo.2.1 8 = .ok (.ireturn, 1) := by decide +kernel
theorem d_M_undo_9 : decode Y_M_undo.2.1 9 = .ok (.aload_n 0, 1) := by decide +kernel
theorem d_M_undo_10 : decode Y_M_undo.2.1 10 = .ok (.dup, 1) := by decide +kernel
theorem d_M_undo_11 : decode Y_M_undo.2.1 11 = .ok (.getfield 360, 3) := by decide +kernel
theorem d_M_undo_14 : decode Y_M_undo.2.1 14 = .ok (.iconst 1, 1) := by decide +kernel
theorem d_M_undo_15 : decode Y_M_undo.2.1 15 = .ok (.isub, 1) := by decide +kernel
theorem d_M_undo_16 : decode Y_M_undo.2.1 16 = .ok (.putfield 360, 3) := by decide +kernel
theorem d_M_undo_19 : decode Y_M_undo.2.1 19 = .ok (.aload_n 0, 1) := by decide +kernel
theorem d_M_undo_20 : decode Y_M_undo.2.1 20 = .ok (.dup, 1) := by decide +kernel
theorem d_M_undo_21 : decode Y_M_undo.2.1 21 = .ok (.getfield 363, 3) := by decide +kernel
theorem d_M_undo_24 : decode Y_M_undo.2.1 24 = .ok (.iconst 1, 1) := by decide +kernel
theorem d_M_undo_25 : decode Y_M_undo.2.1 25 = .ok (.iadd, 1) := by decide +kernel
theorem d_M_undo_26 : decode Y_M_undo.2.1 26 = .ok (.putfield 363, 3) := by decide +kernel
theorem d_M_undo_29 : decode Y_M_undo.2.1 29 = .ok (.aload_n 0, 1) := by decide +kernel
theorem d_M_undo_30 : decode Y_M_undo.2.1 30 = .ok (.invokevirtual 424, 3) := by decide +kernel
theorem d_M_undo_33 : decode Y_M_undo.2.1 33 = .ok (.iconst 1, 1) := by decide +kernel
theorem d_M_undo_34 : decode Y_M_undo.2.1 34 = .ok (.ireturn, 1) := by decide +kernel
theorem e_M_undo {l : Launch} {G : GT} {d : Nat} {P : Int → MM → Prop} {m : MM}   (H : wfM m → ((m 70 45) ≠ 0 → ((inR ((m 70 45) - 1)) ∧ (∀ m8, m8 = up m 70 45 ((m 70 45) - 1) → ((inR ((m8 70 46) + 1)) ∧ (∀ m13, m13 = up m8 70 46 ((m8 70 46) + 1) → (∃ (e16 : Nat) (P17 : MM → Prop), e16 < d ∧ CV l G Y_M_swapAll e16 [.inr (.inr 70)] m13 P17 ∧ (∀ m23, P17 m23 → wfM m23 → (P 1 m23)))))))) ∧ (¬ ((m 70 45) ≠ 0) → (P 0 m))) : CI l G Y_M_undo d [.inr (.inr 70)] m P := by
  refine CI.of [(0, .inr (.inr 70))] k_M_undo.1 (Nat.le_of_ble_eq_true rfl) rfl (Wp.wf (fun hw _ hl hs => ?_))
  have H0 := H hw
  refine Wp.aload_n 0 0 d_M_undo_0 rfl rfl ?_
  refine Wq.getI 45 rfl d_M_undo_1 fl_M_360 rfl (Or.inl rfl) ?_
  obtain ⟨H2, H3⟩ := H0
  refine Wp.if_ne 9 d_M_undo_4 (by decide) (fun c1 => ?_) (fun c1 => ?_)
  · have H4 := H2 c1
    refine Wp.aload_n 0 0 d_M_undo_9 rfl rfl ?_
    refine Wp.dup d_M_undo_10 rfl ?_
    refine Wq.getI 45 rfl d_M_undo_11 fl_M_360 rfl (Or.inl rfl) ?_
    refine Wp.iconst d_M_undo_14 (by decide) ?_
    obtain ⟨s6, H7⟩ := H4
    refine Wp.isub d_M_undo_15 s6 ?_
    refine Wq.putI 45 rfl d_M_undo_16 fl_M_360 (fun _ _ _ h => by cases h; rfl) rfl rfl rfl (fun m8 hm9 => ?_)
    have H10 := H7 m8 hm9
    refine Wp.aload_n 0 0 d_M_undo_19 rfl rfl ?_
    refine Wp.dup d_M_undo_20 rfl ?_
    refine Wq.getI 46 rfl d_M_undo_21 fl_M_363 rfl (Or.inl rfl) ?_
    refine Wp.iconst d_M_undo_24 (by decide) ?_
    obtain ⟨s11, H12⟩ := H10
    refine Wp.iadd d_M_undo_25 s11 ?_
    refine Wq.putI 46 rfl d_M_undo_26 fl_M_363 (fun _ _ _ h => by cases h; rfl) rfl rfl rfl (fun m13 hm14 => ?_)
    have H15 := H12 m13 hm14
    refine Wp.aload_n 0 0 d_M_undo_29 rfl rfl ?_
    obtain ⟨e16, P17, hd18, ho19, H20⟩ := H15
    refine Wq.VV (st := []) [] d_M_undo_30 k_M_swapAll ml_M_424 rfl rfl rfl (fun h => by cases h) (Nat.le_of_ble_eq_true rfl) hd18 ho19 (fun m23 hp24 hw26 => ?_)
    have H21 := H20 m23 hp24 hw26
    refine Wp.iconst d_M_undo_33 (by decide) ?_
    exact Wq.zret d_M_undo_34 rfl (by decide) H21
  · have H5 := H3 c1
    refine Wp.iconst d_M_undo_7 (by decide) ?_
    exact Wq.zret d_M_undo_8 rfl (by decide) H5
theorem d_M_swapAll_0 : decode Y_M_swapAll.2.1 0 = .ok (.iconst 0, 1) := by decide +kernel
theorem d_M_swapAll_1 : decode Y_M_swapAll.2.1 1 = .ok (.istore_n 1, 1) := by decide +kernel
theorem d_M_swapAll_2 : decode Y_M_swapAll.2.1 2 = .ok (.iload_n 1, 1) := by decide +kernel
theorem d_M_swapAll_3 : decode Y_M_swapAll.2.1 3 = .ok (.bipush 8, 2) := by decide +kernel
theorem d_M_swapAll_5 : decode Y_M_swapAll.2.1 5 = .ok (.if_icmp .ge 51, 3) := by decide +kernel
theorem d_M_swapAll_8 : decode Y_M_swapAll.2.1 8 = .ok (.aload_n 0, 1) := by decide +kernel
theorem d_M_swapAll_9 : decode Y_M_swapAll.2.1 9 = .ok (.getfield 91, 3) := by decide +kernel
theorem d_M_swapAll_12 : decode Y_M_swapAll.2.1 12 = .ok (.bipush 8, 2) := by decide +kernel
theorem d_M_swapAll_14 : decode Y_M_swapAll.2.1 14 = .ok (.aload_n 0, 1) := by decide +kernel
theorem d_M_swapAll_15 : decode Y_M_swapAll.2.1 15 = .ok (.getfield 360, 3) := by decide +kernel
theorem d_M_swapAll_18 : decode Y_M_swapAll.2.1 18 = .ok (.imul, 1) := by decide +kernel
theorem d_M_swapAll_19 : decode Y_M_swapAll.2.1 19 = .ok (.iload_n 1, 1) := by decide +kernel
theorem d_M_swapAll_20 : decode Y_M_swapAll.2.1 20 = .ok (.iadd, 1) := by decide +kernel
theorem d_M_swapAll_21 : decode Y_M_swapAll.2.1 21 = .ok (.iaload, 1) := by decide +kernel
theorem d_M_swapAll_22 : decode Y_M_swapAll.2.1 22 = .ok (.istore_n 2, 1) := by decide +kernel
theorem d_M_swapAll_23 : decode Y_M_swapAll.2.1 23 = .ok (.aload_n 0, 1) := by decide +kernel
theorem d_M_swapAll_24 : decode Y_M_swapAll.2.1 24 = .ok (.getfield 91, 3) := by decide +kernel
theorem d_M_swapAll_27 : decode Y_M_swapAll.2.1 27 = .ok (.bipush 8, 2) := by decide +kernel
theorem d_M_swapAll_29 : decode Y_M_swapAll.2.1 29 = .ok (.aload_n 0, 1) := by decide +kernel
theorem d_M_swapAll_30 : decode Y_M_swapAll.2.1 30 = .ok (.getfield 360, 3) := by decide +kernel
theorem d_M_swapAll_33 : decode Y_M_swapAll.2.1 33 = .ok (.imul, 1) := by decide +kernel
theorem d_M_swapAll_34 : decode Y_M_swapAll.2.1 34 = .ok (.iload_n 1, 1) := by decide +kernel
theorem d_M_swapAll_35 : decode Y_M_swapAll.2.1 35 = .ok (.iadd, 1) := by decide +kernel
theorem d_M_swapAll_36 : decode Y_M_swapAll.2.1 36 = .ok (.aload_n 0, 1) := by decide +kernel
theorem d_M_swapAll_37 : decode Y_M_swapAll.2.1 37 = .ok (.getfield 73, 3) := by decide +kernel
theorem d_M_swapAll_40 : decode Y_M_swapAll.2.1 40 = .ok (.iload_n 1, 1) := by decide +kernel
theorem d_M_swapAll_41 : decode Y_M_swapAll.2.1 41 = .ok (.iaload, 1) := by decide +kernel
theorem d_M_swapAll_42 : decode Y_M_swapAll.2.1 42 = .ok (.iastore, 1) := by decide +kernel
theorem d_M_swapAll_43 : decode Y_M_swapAll.2.1 43 = .ok (.aload_n 0, 1) := by decide +kernel
theorem d_M_swapAll_44 : decode Y_M_swapAll.2.1 44 = .ok (.getfield 73, 3) := by decide +kernel
theorem d_M_swapAll_47 : decode Y_M_swapAll.2.1 47 = .ok (.iload_n 1, 1) := by decide +kernel
theorem d_M_swapAll_48 : decode Y_M_swapAll.2.1 48 = .ok (.iload_n 2, 1) := by decide +kernel
theorem d_M_swapAll_49 : decode Y_M_swapAll.2.1 49 = .ok (.iastore, 1) := by decide +kernel
theorem d_M_swapAll_50 : decode Y_M_swapAll.2.1 50 = .ok (.iinc 1 1, 3) := by decide +kernel
theorem d_M_swapAll_53 : decode Y_M_swapAll.2.1 53 = .ok (.goto (-51), 3) := by decide +kernel
theorem d_M_swapAll_56 : decode Y_M_swapAll.2.1 56 = .ok (.return_, 1) := by decide +kernel
theorem e_M_swapAll {l : Launch} {G : GT} {d : Nat} {P : MM → Prop} {m : MM}   (H : wfM m → Wq l G false Y_M_swapAll d (QV P) 2 [(0, .inr (.inr 70)), (1, .inl 0)] [] m) : CV l G Y_M_swapAll d [.inr (.inr 70)] m P := by
  refine CV.of [(0, .inr (.inr 70))] k_M_swapAll.1 (Nat.le_of_ble_eq_true rfl) rfl (Wp.wf (fun hw _ hl hs => ?_))
  have H0 := H hw
  refine Wp.iconst d_M_swapAll_0 (by decide) ?_
  refine Wp.istore_n 1 [(0, .inr (.inr 70)), (1, .inl 0)] d_M_swapAll_1 rfl (by decide) rfl ?_
  exact H0
theorem s_M_swapAll_2 {l : Launch} {G : GT} {d : Nat} {P : MM → Prop} {m : MM} (x1 : Int)  (H : wfM m → inR x1 → (x1 ≥ 8 → (P m)) ∧ (¬ (x1 ≥ 8) → ((inR (8 * (m 70 45))) ∧ ((inR ((8 * (m 70 45)) + x1)) ∧ ((0 ≤ ((8 * (m 70 45)) + x1) ∧ ((8 * (m 70 45)) + x1) < (328 : Int)) ∧ ((inR (8 * (m 70 45))) ∧ ((inR ((8 * (m 70 45)) + x1)) ∧ ((0 ≤ x1 ∧ x1 < (8 : Int)) ∧ ((0 ≤ ((8 * (m 70 45)) + x1) ∧ ((8 * (m 70 45)) + x1) < (328 : Int)) ∧ (∀ m18, m18 = up m 96 ((8 * (m 70 45)) + x1) (m 90 x1) → ((0 ≤ x1 ∧ x1 < (8 : Int)) ∧ (∀ m23, m23 = up m18 90 x1 (m 96 ((8 * (m 70 45)) + x1)) → ((inR (x1 + 1)) ∧ (Wq l G false Y_M_swapAll d (QV P) 2 [(0, .inr (.inr 70)), (1, .inl (x1 + 1))] [] m23)))))))))))))) : Wq l G false Y_M_swapAll d (QV P) 2 [(0, .inr (.inr 70)), (1, .inl x1)] [] m := by
  refine Wp.wf (fun hw _ hl hs => ?_)
  have H0 := H hw (hl _ (List.mem_of_getElem? (i := 1) rfl))
  refine Wp.iload_n 1 1 d_M_swapAll_2 rfl rfl ?_
  refine Wp.bipush d_M_swapAll_3 (by decide) (by decide) ?_
  obtain ⟨H2, H3⟩ := H0
  refine Wp.icmp_ge 56 d_M_swapAll_5 (by decide) (fun c1 => ?_) (fun c1 => ?_)
  · have H4 := H2 c1
    exact Wq.vret d_M_swapAll_56 rfl H4
  · have H5 := H3 c1
    refine Wp.aload_n 0 0 d_M_swapAll_8 rfl rfl ?_
    refine Wp.getP 96 d_M_swapAll_9 fl_M_91 rfl rfl rfl ?_
    refine Wp.bipush d_M_swapAll_12 (by decide) (by decide) ?_
    refine Wp.aload_n 0 0 d_M_swapAll_14 rfl rfl ?_
    refine Wq.getI 45 rfl d_M_swapAll_15 fl_M_360 rfl (Or.inl rfl) ?_
    obtain ⟨s6, H7⟩ := H5
    refine Wp.imul d_M_swapAll_18 s6 ?_
    refine Wp.iload_n 1 1 d_M_swapAll_19 rfl rfl ?_
    obtain ⟨s8, H9⟩ := H7
    refine Wp.iadd d_M_swapAll_20 s8 ?_
    obtain ⟨s10, H11⟩ := H9
    refine Wp.iald d_M_swapAll_21 rfl (Or.inl rfl) s10.1 s10.2 ?_
    refine Wp.istore_n 2 [(0, .inr (.inr 70)), (1, .inl x1), (2, .inl (m 96 ((8 * (m 70 45)) + x1)))] d_M_swapAll_22 rfl (by decide) rfl ?_
    refine Wp.aload_n 0 0 d_M_swapAll_23 rfl rfl ?_
    refine Wp.getP 96 d_M_swapAll_24 fl_M_91 rfl rfl rfl ?_
    refine Wp.bipush d_M_swapAll_27 (by decide) (by decide) ?_
    refine Wp.aload_n 0 0 d_M_swapAll_29 rfl rfl ?_
    refine Wq.getI 45 rfl d_M_swapAll_30 fl_M_360 rfl (Or.inl rfl) ?_
    obtain ⟨s12, H13⟩ := H11
    refine Wp.imul d_M_swapAll_33 s12 ?_
    refine Wp.iload_n 1 1 d_M_swapAll_34 rfl rfl ?_
    obtain ⟨s14, H15⟩ := H13
    refine Wp.iadd d_M_swapAll_35 s14 ?_
    refine Wp.aload_n 0 0 d_M_swapAll_36 rfl rfl ?_
    refine Wp.getP 90 d_M_swapAll_37 fl_M_73 rfl rfl rfl ?_
    refine Wp.iload_n 1 1 d_M_swapAll_40 rfl rfl ?_
    obtain ⟨s16, H17⟩ := H15
    refine Wp.iald d_M_swapAll_41 rfl (Or.inl rfl) s16.1 s16.2 ?_
    obtain ⟨s32, H33⟩ := H17
    refine Wq.iast d_M_swapAll_42 rfl s32.1 s32.2 (fun m18 hm19 => ?_)
    have H20 := H33 m18 hm19
    refine Wp.aload_n 0 0 d_M_swapAll_43 rfl rfl ?_
    refine Wp.getP 90 d_M_swapAll_44 fl_M_73 rfl rfl rfl ?_
    refine Wp.iload_n 1 1 d_M_swapAll_47 rfl rfl ?_
    refine Wp.iload_n 2 2 d_M_swapAll_48 rfl rfl ?_
    obtain ⟨s30, H31⟩ := H20
    refine Wq.iast d_M_swapAll_49 rfl s30.1 s30.2 (fun m23 hm24 => ?_)
    have H25 := H31 m23 hm24
    obtain ⟨s28, H29⟩ := H25
    refine Wp.iinc 1 1 [(0, .inr (.inr 70)), (1, .inl (x1 + 1)), (2, .inl (m 96 ((8 * (m 70 45)) + x1)))] d_M_swapAll_50 rfl s28 (by decide) rfl ?_
    refine Wp.goto 2 d_M_swapAll_53 (by decide) ?_
    refine Wp.pick [0, 1] [(0, .inr (.inr 70)), (1, .inl (x1 + 1))] rfl ?_
    exact H29
theorem d_M_redo_0 : decode Y_M_redo.2.1 0 = .ok (.aload_n 0, 1) := by decide +kernel
theorem d_M_redo_1 : decode Y_M_redo.2.1 1 = .ok (.getfield 363, 3) := by decide +kernel
theorem d_M_redo_4 : decode Y_M_redo.2.1 4 = .ok (.ifCond .ne 5, 3) := by decide +kernel
theorem d_M_redo_7 : decode Y_M_redo.2.1 7 = .ok (.iconst 0, 1) := by decide +kernel
theorem d_M_redo_8 : decode Y_M_redo.2.1 8 = .ok (.ireturn, 1) := by decide +kernel
theorem d_M_redo_9 : decode Y_M_redo.2.1 9 = .ok (.aload_n 0, 1) := by decide +kernel
theorem d_M_redo_10 : decode Y_M_redo.2.1 10 = .ok (.invokevirtual 424, 3) := by decide +kernel
theorem d_M_redo_13 : decode Y_M_redo.2.1 13 = .ok (.aload_n 0, 1) := by decide +kernel
theorem d_M_redo_14 : decode Y_M_redo.2.1 14 = .ok (.dup, 1) := by decide +kernel
theorem d_M_redo_15 : decode Y_M_redo.2.1 15 = .ok (.getfield 360, 3) := by decide +kernel
theorem d_M_redo_18 : decode Y_M_redo.2.1 18 = .ok (.iconst 1, 1) := by decide +kernel
theorem d_M_redo_19 : decode Y_M_redo.2.1 19 = .ok (.iadd, 1) := by decide +kernel
theorem d_M_redo_20 : decode Y_M_redo.2.1 20 = .ok (.putfield 360, 3) := by decide +kernel
theorem d_M_redo_23 : decode Y_M_redo.2.1 23 = .ok (.aload_n 0, 1) := by decide +kernel
theorem d_M_redo_24 : decode Y_M_redo.2.1 24 = .ok (.dup, 1) := by decide +kernel
theorem d_M_redo_25 : decode Y_M_redo.2.1 25 = .ok (.getfield 363, 3) := by decide +kernel
theorem d_M_redo_28 : decode Y_M_redo.2.1 28 = .ok (.iconst 1, 1) := by decide +kernel
theorem d_M_redo_29 : decode Y_M_redo.2.1 29 = .ok (.isub, 1) := by decide +kernel
theorem d_M_redo_30 : decode Y_M_redo.2.1 30 = .ok (.putfield 363, 3) := by decide +kernel
theorem d_M_redo_33 : decode Y_M_redo.2.1 33 = .ok (.iconst 1, 1) := by decide +kernel
theorem d_M_redo_34 : decode Y_M_redo.2.1 34 = .ok (.ireturn, 1) := by decide +kernel
theorem e_M_redo {l : Launch} {G : GT} {d : Nat} {P : Int → MM → Prop} {m : MM}   (H : wfM m → ((m 70 46) ≠ 0 → (∃ (e6 : Nat) (P7 : MM → Prop), e6 < d ∧ CV l G Y_M_swapAll e6 [.inr (.inr 70)] m P7 ∧ (∀ m13, P7 m13 → wfM m13 → ((inR ((m13 70 45) + 1)) ∧ (∀ m19, m19 = up m13 70 45 ((m13 70 45) + 1) → ((inR ((m19 70 46) - 1)) ∧ (∀ m24, m24 = up m19 70 46 ((m19 70 46) - 1) → (P 1 m24)))))))) ∧ (¬ ((m 70 46) ≠ 0) → (P 0 m))) : CI l G Y_M_redo d [.inr (.inr 70)] m P := by
  refine CI.of [(0, .inr (.inr 70))] k_M_redo.1 (Nat.le_of_ble_eq_true rfl) rfl (Wp.wf (fun hw _ hl hs => ?_))
  have H0 := H hw
  refine Wp.aload_n 0 0 d_M_redo_0 rfl rfl ?_
  refine Wq.getI 46 rfl d_M_redo_1 fl_M_363 rfl (Or.inl rfl) ?_
  obtain ⟨H2, H3⟩ := H0
  refine Wp.if_ne 9 d_M_redo_4 (by decide) (fun c1 => ?_) (fun c1 => ?_)
  · have H4 := H2 c1
    refine Wp.aload_n 0 0 d_M_redo_9 rfl rfl ?_
    obtain ⟨e6, P7, hd8, ho9, H10⟩ := H4
    refine Wq.VV (st := []) [] d_M_redo_10 k_M_swapAll ml_M_424 rfl rfl rfl (fun h => by cases h) (Nat.le_of_ble_eq_true rfl) hd8 ho9 (fun m13 hp14 hw16 => ?_)
    have H11 := H10 m13 hp14 hw16
    refine Wp.aload_n 0 0 d_M_redo_13 rfl rfl ?_
    refine Wp.dup d_M_redo_14 rfl ?_
    refine Wq.getI 45 rfl d_M_redo_15 fl_M_360 rfl (Or.inl rfl) ?_
    refine Wp.iconst d_M_redo_18 (by decide) ?_
    obtain ⟨s17, H18⟩ := H11
    refine Wp.iadd d_M_redo_19 s17 ?_
    refine Wq.putI 45 rfl d_M_redo_20 fl_M_360 (fun _ _ _ h => by cases h; rfl) rfl rfl rfl (fun m19 hm20 => ?_)
    have H21 := H18 m19 hm20
    refine Wp.aload_n 0 0 d_M_redo_23 rfl rfl ?_
    refine Wp.dup d_M_redo_24 rfl ?_
    refine Wq.getI 46 rfl d_M_redo_25 fl_M_363 rfl (Or.inl rfl) ?_
    refine Wp.iconst d_M_redo_28 (by decide) ?_
    obtain ⟨s22, H23⟩ := H21
    refine Wp.isub d_M_redo_29 s22 ?_
    refine Wq.putI 46 rfl d_M_redo_30 fl_M_363 (fun _ _ _ h => by cases h; rfl) rfl rfl rfl (fun m24 hm25 => ?_)
    have H26 := H23 m24 hm25
    refine Wp.iconst d_M_redo_33 (by decide) ?_
    exact Wq.zret d_M_redo_34 rfl (by decide) H26
  · have H5 := H3 c1
    refine Wp.iconst d_M_redo_7 (by decide) ?_
    exact Wq.zret d_M_redo_8 rfl (by decide) H5
theorem d_M_will_0 : decode Y_M_will.2.1 0 = .ok (.aload_n 0, 1) := by decide +kernel
theorem d_M_will_1 : decode Y_M_will.2.1 1 = .ok (.iload_n 1, 1) := by decide +kernel
theorem d_M_will_2 : decode Y_M_will.2.1 2 = .ok (.invokevirtual 405, 3) := by decide +kernel
theorem d_M_will_5 : decode Y_M_will.2.1 5 = .ok (.ifCond .eq 22, 3) := by decide +kernel
theorem d_M_will_8 : decode Y_M_will.2.1 8 = .ok (.iload_n 2, 1) := by decide +kernel
theorem d_M_will_9 : decode Y_M_will.2.1 9 = .ok (.iconst 0, 1) := by decide +kernel
theorem d_M_will_10 : decode Y_M_will.2.1 10 = .ok (.bipush 30, 2) := by decide +kernel
theorem d_M_will_12 : decode Y_M_will.2.1 12 = .ok (.invokestatic 341, 3) := by decide +kernel
theorem d_M_will_15 : decode Y_M_will.2.1 15 = .ok (.ifCond .eq 12, 3) := by decide +kernel
theorem d_M_will_18 : decode Y_M_will.2.1 18 = .ok (.iload_n 3, 1) := by decide +kernel
theorem d_M_will_19 : decode Y_M_will.2.1 19 = .ok (.iconst 0, 1) := by decide +kernel
theorem d_M_will_20 : decode Y_M_will.2.1 20 = .ok (.iconst 1, 1) := by decide +kernel
theorem d_M_will_21 : decode Y_M_will.2.1 21 = .ok (.invokestatic 341, 3) := by decide +kernel
theorem d_M_will_24 : decode Y_M_will.2.1 24 = .ok (.ifCond .ne 5, 3) := by decide +kernel
theorem d_M_will_27 : decode Y_M_will.2.1 27 = .ok (.iconst (-1), 1) := by decide +kernel
theorem d_M_will_28 : decode Y_M_will.2.1 28 = .ok (.ireturn, 1) := by decide +kernel
theorem d_M_will_29 : decode Y_M_will.2.1 29 = .ok (.aload_n 0, 1) := by decide +kernel
theorem d_M_will_30 : decode Y_M_will.2.1 30 = .ok (.invokevirtual 427, 3) := by decide +kernel
theorem d_M_will_33 : decode Y_M_will.2.1 33 = .ok (.iconst 0, 1) := by decide +kernel
theorem d_M_will_34 : decode Y_M_will.2.1 34 = .ok (.istore 4, 2) := by decide +kernel
theorem d_M_will_36 : decode Y_M_will.2.1 36 = .ok (.iconst 0, 1) := by decide +kernel
theorem d_M_will_37 : decode Y_M_will.2.1 37 = .ok (.istore 5, 2) := by decide +kernel
theorem d_M_will_39 : decode Y_M_will.2.1 39 = .ok (.iload 5, 2) := by decide +kernel
theorem d_M_will_41 : decode Y_M_will.2.1 41 = .ok (.iload_n 2, 1) := by decide +kernel
theorem d_M_will_42 : decode Y_M_will.2.1 42 = .ok (.if_icmp .ge 28, 3) := by decide +kernel
theorem d_M_will_45 : decode Y_M_will.2.1 45 = .ok (.iload 4, 2) := by decide +kernel
theorem d_M_will_47 : decode Y_M_will.2.1 47 = .ok (.aload_n 0, 1) := by decide +kernel
theorem d_M_will_48 : decode Y_M_will.2.1 48 = .ok (.iload_n 3, 1) := by decide +kernel
theorem d_M_will_49 : decode Y_M_will.2.1 49 = .ok (.iconst 1, 1) := by decide +kernel
theorem d_M_will_50 : decode Y_M_will.2.1 50 = .ok (.if_icmp .ne 7, 3) := by decide +kernel
theorem d_M_will_53 : decode Y_M_will.2.1 53 = .ok (.iconst 1, 1) := by decide +kernel
theorem d_M_will_54 : decode Y_M_will.2.1 54 = .ok (.goto 4, 3) := by decide +kernel
theorem d_M_will_57 : decode Y_M_will.2.1 57 = .ok (.iconst 0, 1) := by decide +kernel
theorem d_M_will_58 : decode Y_M_will.2.1 58 = .ok (.invokevirtual 417, 3) := by decide +kernel
theorem d_M_will_61 : decode Y_M_will.2.1 61 = .ok (.iadd, 1) := by decide +kernel
theorem d_M_will_62 : decode Y_M_will.2.1 62 = .ok (.istore 4, 2) := by decide +kernel
theorem d_M_will_64 : decode Y_M_will.2.1 64 = .ok (.iinc 5 1, 3) := by decide +kernel
theorem d_M_will_67 : decode Y_M_will.2.1 67 = .ok (.goto (-28), 3) := by decide +kernel
theorem d_M_will_70 : decode Y_M_will.2.1 70 = .ok (.aload_n 0, 1) := by decide +kernel
theorem d_M_will_71 : decode Y_M_will.2.1 71 = .ok (.getfield 73, 3) := by decide +kernel
theorem d_M_will_74 : decode Y_M_will.2.1 74 = .ok (.iconst 0, 1) := by decide +kernel
theorem d_M_will_75 : decode Y_M_will.2.1 75 = .ok (.iload_n 1, 1) := by decide +kernel
theorem d_M_will_76 : decode Y_M_will.2.1 76 = .ok (.iadd, 1) := by decide +kernel
theorem d_M_will_77 : decode Y_M_will.2.1 77 = .ok (.iaload, 1) := by decide +kernel
theorem d_M_will_78 : decode Y_M_will.2.1 78 = .ok (.istore 5, 2) := by decide +kernel
theorem d_M_will_80 : decode Y_M_will.2.1 80 = .ok (.aload_n 0, 1) := by decide +kernel
theorem d_M_will_81 : decode Y_M_will.2.1 81 = .ok (.invokevirtual 430, 3) := by decide +kernel
theorem d_M_will_84 : decode Y_M_will.2.1 84 = .ok (.iload 5, 2) := by decide +kernel
theorem d_M_will_86 : decode Y_M_will.2.1 86 = .ok (.ireturn, 1) := by decide +kernel
theorem e_M_will {l : Launch} {G : GT} {d : Nat} {P : Int → MM → Prop} {m : MM} (x1 : Int) (x2 : Int) (x3 : Int)  (H : wfM m → inR x1 → inR x2 → inR x3 → ∃ (e1 : Nat) (P2 : Int → MM → Prop), e1 < d ∧ CI l G Y_M_isPlate e1 [.inr (.inr 70), .inl x1] m P2 ∧ (∀ z7 m8, P2 z7 m8 → inR z7 → wfM m8 → ((z7 = 0 → (P (-1) m8)) ∧ (¬ (z7 = 0) → (∃ (e17 : Nat) (P18 : Int → MM → Prop), e17 < d ∧ CI l G Y_M_isIn e17 [.inl x2, .inl 0, .inl 30] m8 P18 ∧ (∀ z23 m24, P18 z23 m24 → inR z23 → wfM m24 → ((z23 = 0 → (P (-1) m24)) ∧ (¬ (z23 = 0) → (∃ (e33 : Nat) (P34 : Int → MM → Prop), e33 < d ∧ CI l G Y_M_isIn e33 [.inl x3, .inl 0, .inl 1] m24 P34 ∧ (∀ z39 m40, P34 z39 m40 → inR z39 → wfM m40 → ((z39 ≠ 0 → (∃ (e49 : Nat) (P50 : MM → Prop), e49 < d ∧ CV l G Y_M_keepNow e49 [.inr (.inr 70)] m40 P50 ∧ (∀ m56, P50 m56 → wfM m56 → (Wq l G false Y_M_will d (QI P) 39 [(0, .inr (.inr 70)), (1, .inl x1), (2, .inl x2), (3, .inl x3), (4, .inl 0), (5, .inl 0)] [] m56)))) ∧ (¬ (z39 ≠ 0) → (P (-1) m40))))))))))))) : CI l G Y_M_will d [.inr (.inr 70), .inl x1, .inl x2, .inl x3] m P := by
  refine CI.of [(0, .inr (.inr 70)), (1, .inl x1), (2, .inl x2), (3, .inl x3)] k_M_will.1 (Nat.le_of_ble_eq_true rfl) rfl (Wp.wf (fun hw _ hl hs => ?_))
  have H0 := H hw (hl _ (List.mem_of_getElem? (i := 1) rfl)) (hl _ (List.mem_of_getElem? (i := 2) rfl)) (hl _ (List.mem_of_getElem? (i := 3) rfl))
  refine Wp.aload_n 0 0 d_M_will_0 rfl rfl ?_
  refine Wp.iload_n 1 1 d_M_will_1 rfl rfl ?_
  obtain ⟨e1, P2, hd3, ho4, H5⟩ := H0
  refine Wq.VI (st := []) [.inl x1] d_M_will_2 k_M_isPlate ml_M_405 rfl rfl rfl (fun h => by cases h) (Nat.le_of_ble_eq_true rfl) hd3 ho4 (fun z7 m8 hp9 hz10 hw11 => ?_)
  have H6 := H5 z7 m8 hp9 hz10 hw11
  obtain ⟨H13, H14⟩ := H6
  refine Wp.if_eq 27 d_M_will_5 (by decide) (fun c12 => ?_) (fun c12 => ?_)
  · have H15 := H13 c12
    refine Wp.iconst d_M_will_27 (by decide) ?_
    exact Wq.iret d_M_will_28 rfl H15
  · have H16 := H14 c12
    refine Wp.iload_n 2 2 d_M_will_8 rfl rfl ?_
    refine Wp.iconst d_M_will_9 (by decide) ?_
    refine Wp.bipush d_M_will_10 (by decide) (by decide) ?_
    obtain ⟨e17, P18, hd19, ho20, H21⟩ := H16
    refine Wq.SI (st := []) [.inl x2, .inl 0, .inl 30] d_M_will_12 k_M_isIn ml_M_341 rfl  (fun h => by cases h) (Nat.le_of_ble_eq_true rfl) hd19 ho20 (fun z23 m24 hp25 hz26 hw27 => ?_)
    have H22 := H21 z23 m24 hp25 hz26 hw27
    obtain ⟨H29, H30⟩ := H22
    refine Wp.if_eq 27 d_M_will_15 (by decide) (fun c28 => ?_) (fun c28 => ?_)
    · have H31 := H29 c28
      refine Wp.iconst d_M_will_27 (by decide) ?_
      exact Wq.iret d_M_will_28 rfl H31
    · have H32 := H30 c28
      refine Wp.iload_n 3 3 d_M_will_18 rfl rfl ?_
      refine Wp.iconst d_M_will_19 (by decide) ?_
      refine Wp.iconst d_M_will_20 (by decide) ?_
      obtain ⟨e33, P34, hd35, ho36, H37⟩ := H32
      refine Wq.SI (st := []) [.inl x3, .inl 0, .inl 1] d_M_will_21 k_M_isIn ml_M_341 rfl  (fun h => by cases h) (Nat.le_of_ble_eq_true rfl) hd35 ho36 (fun z39 m40 hp41 hz42 hw43 => ?_)
      have H38 := H37 z39 m40 hp41 hz42 hw43
      obtain ⟨H45, H46⟩ := H38
      refine Wp.if_ne 29 d_M_will_24 (by decide) (fun c44 => ?_) (fun c44 => ?_)
      · have H47 := H45 c44
        refine Wp.aload_n 0 0 d_M_will_29 rfl rfl ?_
        obtain ⟨e49, P50, hd51, ho52, H53⟩ := H47
        refine Wq.VV (st := []) [] d_M_will_30 k_M_keepNow ml_M_427 rfl rfl rfl (fun h => by cases h) (Nat.le_of_ble_eq_true rfl) hd51 ho52 (fun m56 hp57 hw59 => ?_)
        have H54 := H53 m56 hp57 hw59
        refine Wp.iconst d_M_will_33 (by decide) ?_
        refine Wp.istore 4 [(0, .inr (.inr 70)), (1, .inl x1), (2, .inl x2), (3, .inl x3), (4, .inl 0)] d_M_will_34 (by decide) rfl ?_
        refine Wp.iconst d_M_will_36 (by decide) ?_
        refine Wp.istore 5 [(0, .inr (.inr 70)), (1, .inl x1), (2, .inl x2), (3, .inl x3), (4, .inl 0), (5, .inl 0)] d_M_will_37 (by decide) rfl ?_
        exact H54
      · have H48 := H46 c44
        refine Wp.iconst d_M_will_27 (by decide) ?_
        exact Wq.iret d_M_will_28 rfl H48
theorem s_M_will_39 {l : Launch} {G : GT} {d : Nat} {P : Int → MM → Prop} {m : MM} (x1 : Int) (x2 : Int) (x3 : Int) (x4 : Int) (x5 : Int)  (H : wfM m → inR x1 → inR x2 → inR x3 → inR x4 → inR x5 → (x5 ≥ x2 → ((inR (0 + x1)) ∧ ((0 ≤ (0 + x1) ∧ (0 + x1) < (8 : Int)) ∧ (∃ (e10 : Nat) (P11 : MM → Prop), e10 < d ∧ CV l G Y_M_bringBack e10 [.inr (.inr 70)] m P11 ∧ (∀ m17, P11 m17 → wfM m17 → (P (m 90 (0 + x1)) m17)))))) ∧ (¬ (x5 ≥ x2) → ((x3 ≠ 1 → (∃ (e26 : Nat) (P27 : Int → MM → Prop), e26 < d ∧ CI l G Y_M_goDay e26 [.inr (.inr 70), .inl 0] m P27 ∧ (∀ z32 m33, P27 z32 m33 → inR z32 → wfM m33 → ((inR (x4 + z32)) ∧ ((inR (x5 + 1)) ∧ (Wq l G false Y_M_will d (QI P) 39 [(0, .inr (.inr 70)), (1, .inl x1), (2, .inl x2), (3, .inl x3), (4, .inl (x4 + z32)), (5, .inl (x5 + 1))] [] m33)))))) ∧ (¬ (x3 ≠ 1) → (∃ (e41 : Nat) (P42 : Int → MM → Prop), e41 < d ∧ CI l G Y_M_goDay e41 [.inr (.inr 70), .inl 1] m P42 ∧ (∀ z47 m48, P42 z47 m48 → inR z47 → wfM m48 → ((inR (x4 + z47)) ∧ ((inR (x5 + 1)) ∧ (Wq l G false Y_M_will d (QI P) 39 [(0, .inr (.inr 70)), (1, .inl x1), (2, .inl x2), (3, .inl x3), (4, .inl (x4 + z47)), (5, .inl (x5 + 1))] [] m48))))))))) : Wq l G false Y_M_will d (QI P) 39 [(0, .inr (.inr 70)), (1, .inl x1), (2, .inl x2), (3, .inl x3), (4, .inl x4), (5, .inl x5)] [] m := by
  refine Wp.wf (fun hw _ hl hs => ?_)
  have H0 := H hw (hl _ (List.mem_of_getElem? (i := 1) rfl)) (hl _ (List.mem_of_getElem? (i := 2) rfl)) (hl _ (List.mem_of_getElem? (i := 3) rfl)) (hl _ (List.mem_of_getElem? (i := 4) rfl)) (hl _ (List.mem_of_getElem? (i := 5) rfl))
  refine Wp.iload 5 5 d_M_will_39 rfl ?_
  refine Wp.iload_n 2 2 d_M_will_41 rfl rfl ?_
  obtain ⟨H2, H3⟩ := H0
  refine Wp.icmp_ge 70 d_M_will_42 (by decide) (fun c1 => ?_) (fun c1 => ?_)
  · have H4 := H2 c1
    refine Wp.aload_n 0 0 d_M_will_70 rfl rfl ?_
    refine Wp.getP 90 d_M_will_71 fl_M_73 rfl rfl rfl ?_
    refine Wp.iconst d_M_will_74 (by decide) ?_
    refine Wp.iload_n 1 1 d_M_will_75 rfl rfl ?_
    obtain ⟨s6, H7⟩ := H4
    refine Wp.iadd d_M_will_76 s6 ?_
    obtain ⟨s8, H9⟩ := H7
    refine Wp.iald d_M_will_77 rfl (Or.inl rfl) s8.1 s8.2 ?_
    refine Wp.istore 5 [(0, .inr (.inr 70)), (1, .inl x1), (2, .inl x2), (3, .inl x3), (4, .inl x4), (5, .inl (m 90 (0 + x1)))] d_M_will_78 (by decide) rfl ?_
    refine Wp.aload_n 0 0 d_M_will_80 rfl rfl ?_
    obtain ⟨e10, P11, hd12, ho13, H14⟩ := H9
    refine Wq.VV (st := []) [] d_M_will_81 k_M_bringBack ml_M_430 rfl rfl rfl (fun h => by cases h) (Nat.le_of_ble_eq_true rfl) hd12 ho13 (fun m17 hp18 hw20 => ?_)
    have H15 := H14 m17 hp18 hw20
    refine Wp.iload 5 5 d_M_will_84 rfl ?_
    exact Wq.iret d_M_will_86 rfl H15
  · have H5 := H3 c1
    refine Wp.iload 4 4 d_M_will_45 rfl ?_
    refine Wp.aload_n 0 0 d_M_will_47 rfl rfl ?_
    refine Wp.iload_n 3 3 d_M_will_48 rfl rfl ?_
    refine Wp.iconst d_M_will_49 (by decide) ?_
    obtain ⟨H22, H23⟩ := H5
    refine Wp.icmp_ne 57 d_M_will_50 (by decide) (fun c21 => ?_) (fun c21 => ?_)
    · have H24 := H22 c21
      refine Wp.iconst d_M_will_57 (by decide) ?_
      obtain ⟨e26, P27, hd28, ho29, H30⟩ := H24
      refine Wq.VI (st := [.inl x4]) [.inl 0] d_M_will_58 k_M_goDay ml_M_417 rfl rfl rfl (fun h => by cases h) (Nat.le_of_ble_eq_true rfl) hd28 ho29 (fun z32 m33 hp34 hz35 hw36 => ?_)
      have H31 := H30 z32 m33 hp34 hz35 hw36
      obtain ⟨s37, H38⟩ := H31
      refine Wp.iadd d_M_will_61 s37 ?_
      refine Wp.istore 4 [(0, .inr (.inr 70)), (1, .inl x1), (2, .inl x2), (3, .inl x3), (4, .inl (x4 + z32)), (5, .inl x5)] d_M_will_62 (by decide) rfl ?_
      obtain ⟨s39, H40⟩ := H38
      refine Wp.iinc 5 5 [(0, .inr (.inr 70)), (1, .inl x1), (2, .inl x2), (3, .inl x3), (4, .inl (x4 + z32)), (5, .inl (x5 + 1))] d_M_will_64 rfl s39 (by decide) rfl ?_
      refine Wp.goto 39 d_M_will_67 (by decide) ?_
      exact H40
    · have H25 := H23 c21
      refine Wp.iconst d_M_will_53 (by decide) ?_
      refine Wp.goto 58 d_M_will_54 (by decide) ?_
      obtain ⟨e41, P42, hd43, ho44, H45⟩ := H25
      refine Wq.VI (st := [.inl x4]) [.inl 1] d_M_will_58 k_M_goDay ml_M_417 rfl rfl rfl (fun h => by cases h) (Nat.le_of_ble_eq_true rfl) hd43 ho44 (fun z47 m48 hp49 hz50 hw51 => ?_)
      have H46 := H45 z47 m48 hp49 hz50 hw51
      obtain ⟨s52, H53⟩ := H46
      refine Wp.iadd d_M_will_61 s52 ?_
      refine Wp.istore 4 [(0, .inr (.inr 70)), (1, .inl x1), (2, .inl x2), (3, .inl x3), (4, .inl (x4 + z47)), (5, .inl x5)] d_M_will_62 (by decide) rfl ?_
      obtain ⟨s54, H55⟩ := H53
      refine Wp.iinc 5 5 [(0, .inr (.inr 70)), (1, .inl x1), (2, .inl x2), (3, .inl x3), (4, .inl (x4 + z47)), (5, .inl (x5 + 1))] d_M_will_64 rfl s54 (by decide) rfl ?_
      refine Wp.goto 39 d_M_will_67 (by decide) ?_
      exact H55
theorem d_M_keepNow_0 : decode Y_M_keepNow.2.1 0 = .ok (.iconst 0, 1) := by decide +kernel
theorem d_M_keepNow_1 : decode Y_M_keepNow.2.1 1 = .ok (.istore_n 1, 1) := by decide +kernel
theorem d_M_keepNow_2 : decode Y_M_keepNow.2.1 2 = .ok (.iload_n 1, 1) := by decide +kernel
theorem d_M_keepNow_3 : decode Y_M_keepNow.2.1 3 = .ok (.bipush 8, 2) := by decide +kernel
theorem d_M_keepNow_5 : decode Y_M_keepNow.2.1 5 = .ok (.if_icmp .ge 21, 3) := by decide +kernel
theorem d_M_keepNow_8 : decode Y_M_keepNow.2.1 8 = .ok (.aload_n 0, 1) := by decide +kernel
theorem d_M_keepNow_9 : decode Y_M_keepNow.2.1 9 = .ok (.getfield 76, 3) := by decide +kernel
theorem d_M_keepNow_12 : decode Y_M_keepNow.2.1 12 = .ok (.iload_n 1, 1) := by decide +kernel
theorem d_M_keepNow_13 : decode Y_M_keepNow.2.1 13 = .ok (.aload_n 0, 1) := by decide +kernel
theorem d_M_keepNow_14 : decode Y_M_keepNow.2.1 14 = .ok (.getfield 73, 3) := by decide +kernel
theorem d_M_keepNow_17 : decode Y_M_keepNow.2.1 17 = .ok (.iload_n 1, 1) := by decide +kernel
theorem d_M_keepNow_18 : decode Y_M_keepNow.2.1 18 = .ok (.iaload, 1) := by decide +kernel
theorem d_M_keepNow_19 : decode Y_M_keepNow.2.1 19 = .ok (.iastore, 1) := by decide +kernel
theorem d_M_keepNow_20 : decode Y_M_keepNow.2.1 20 = .ok (.iinc 1 1, 3) := by decide +kernel
theorem d_M_keepNow_23 : decode Y_M_keepNow.2.1 23 = .ok (.goto (-21), 3) := by decide +kernel
theorem d_M_keepNow_26 : decode Y_M_keepNow.2.1 26 = .ok (.return_, 1) := by decide +kernel
theorem e_M_keepNow {l : Launch} {G : GT} {d : Nat} {P : MM → Prop} {m : MM}   (H : wfM m → Wq l G false Y_M_keepNow d (QV P) 2 [(0, .inr (.inr 70)), (1, .inl 0)] [] m) : CV l G Y_M_keepNow d [.inr (.inr 70)] m P := by
  refine CV.of [(0, .inr (.inr 70))] k_M_keepNow.1 (Nat.le_of_ble_eq_true rfl) rfl (Wp.wf (fun hw _ hl hs => ?_))
  have H0 := H hw
  refine Wp.iconst d_M_keepNow_0 (by decide) ?_
  refine Wp.istore_n 1 [(0, .inr (.inr 70)), (1, .inl 0)] d_M_keepNow_1 rfl (by decide) rfl ?_
  exact H0
theorem s_M_keepNow_2 {l : Launch} {G : GT} {d : Nat} {P : MM → Prop} {m : MM} (x1 : Int)  (H : wfM m → inR x1 → (x1 ≥ 8 → (P m)) ∧ (¬ (x1 ≥ 8) → ((0 ≤ x1 ∧ x1 < (8 : Int)) ∧ ((0 ≤ x1 ∧ x1 < (8 : Int)) ∧ (∀ m8, m8 = up m 91 x1 (m 90 x1) → ((inR (x1 + 1)) ∧ (Wq l G false Y_M_keepNow d (QV P) 2 [(0, .inr (.inr 70)), (1, .inl (x1 + 1))] [] m8))))))) : Wq l G false Y_M_keepNow d (QV P) 2 [(0, .inr (.inr 70)), (1, .inl x1)] [] m := by
  refine Wp.wf (fun hw _ hl hs => ?_)
  have H0 := H hw (hl _ (List.mem_of_getElem? (i := 1) rfl))
  refine Wp.iload_n 1 1 d_M_keepNow_2 rfl rfl ?_
  refine Wp.bipush d_M_keepNow_3 (by decide) (by decide) ?_
  obtain ⟨H2, H3⟩ := H0
  refine Wp.icmp_ge 26 d_M_keepNow_5 (by decide) (fun c1 => ?_) (fun c1 => ?_)
  · have H4 := H2 c1
    exact Wq.vret d_M_keepNow_26 rfl H4
  · have H5 := H3 c1
    refine Wp.aload_n 0 0 d_M_keepNow_8 rfl rfl ?_
    refine Wp.getP 91 d_M_keepNow_9 fl_M_76 rfl rfl rfl ?_
    refine Wp.iload_n 1 1 d_M_keepNow_12 rfl rfl ?_
    refine Wp.aload_n 0 0 d_M_keepNow_13 rfl rfl ?_
    refine Wp.getP 90 d_M_keepNow_14 fl_M_73 rfl rfl rfl ?_
    refine Wp.iload_n 1 1 d_M_keepNow_17 rfl rfl ?_
    obtain ⟨s6, H7⟩ := H5
    refine Wp.iald d_M_keepNow_18 rfl (Or.inl rfl) s6.1 s6.2 ?_
    obtain ⟨s15, H16⟩ := H7
    refine Wq.iast d_M_keepNow_19 rfl s15.1 s15.2 (fun m8 hm9 => ?_)
    have H10 := H16 m8 hm9
    obtain ⟨s13, H14⟩ := H10
    refine Wp.iinc 1 1 [(0, .inr (.inr 70)), (1, .inl (x1 + 1))] d_M_keepNow_20 rfl s13 (by decide) rfl ?_
    refine Wp.goto 2 d_M_keepNow_23 (by decide) ?_
    exact H14
theorem d_M_bringBack_0 : decode Y_M_bringBack.2.1 0 = .ok (.iconst 0, 1) := by decide +kernel
theorem d_M_bringBack_1 : decode Y_M_bringBack.2.1 1 = .ok (.istore_n 1, 1) := by decide +kernel
theorem d_M_bringBack_2 : decode Y_M_bringBack.2.1 2 = .ok (.iload_n 1, 1) := by decide +kernel
theorem d_M_bringBack_3 : decode Y_M_bringBack.2.1 3 = .ok (.bipush 8, 2) := by decide +kernel
theorem d_M_bringBack_5 : decode Y_M_bringBack.2.1 5 = .ok (.if_icmp .ge 21, 3) := by decide +kernel
theorem d_M_bringBack_8 : decode Y_M_bringBack.2.1 8 = .ok (.aload_n 0, 1) := by decide +kernel
theorem d_M_bringBack_9 : decode Y_M_bringBack.2.1 9 = .ok (.getfield 73, 3) := by decide +kernel
theorem d_M_bringBack_12 : decode Y_M_bringBack.2.1 12 = .ok (.iload_n 1, 1) := by decide +kernel
theorem d_M_bringBack_13 : decode Y_M_bringBack.2.1 13 = .ok (.aload_n 0, 1) := by decide +kernel
theorem d_M_bringBack_14 : decode Y_M_bringBack.2.1 14 = .ok (.getfield 76, 3) := by decide +kernel
theorem d_M_bringBack_17 : decode Y_M_bringBack.2.1 17 = .ok (.iload_n 1, 1) := by decide +kernel
theorem d_M_bringBack_18 : decode Y_M_bringBack.2.1 18 = .ok (.iaload, 1) := by decide +kernel
theorem d_M_bringBack_19 : decode Y_M_bringBack.2.1 19 = .ok (.iastore, 1) := by decide +kernel
theorem d_M_bringBack_20 : decode Y_M_bringBack.2.1 20 = .ok (.iinc 1 1, 3) := by decide +kernel
theorem d_M_bringBack_23 : decode Y_M_bringBack.2.1 23 = .ok (.goto (-21), 3) := by decide +kernel
theorem d_M_bringBack_26 : decode Y_M_bringBack.2.1 26 = .ok (.return_, 1) := by decide +kernel
theorem e_M_bringBack {l : Launch} {G : GT} {d : Nat} {P : MM → Prop} {m : MM}   (H : wfM m → Wq l G false Y_M_bringBack d (QV P) 2 [(0, .inr (.inr 70)), (1, .inl 0)] [] m) : CV l G Y_M_bringBack d [.inr (.inr 70)] m P := by
  refine CV.of [(0, .inr (.inr 70))] k_M_bringBack.1 (Nat.le_of_ble_eq_true rfl) rfl (Wp.wf (fun hw _ hl hs => ?_))
  have H0 := H hw
  refine Wp.iconst d_M_bringBack_0 (by decide) ?_
  refine Wp.istore_n 1 [(0, .inr (.inr 70)), (1, .inl 0)] d_M_bringBack_1 rfl (by decide) rfl ?_
  exact H0
theorem s_M_bringBack_2 {l : Launch} {G : GT} {d : Nat} {P : MM → Prop} {m : MM} (x1 : Int)  (H : wfM m → inR x1 → (x1 ≥ 8 → (P m)) ∧ (¬ (x1 ≥ 8) → ((0 ≤ x1 ∧ x1 < (8 : Int)) ∧ ((0 ≤ x1 ∧ x1 < (8 : Int)) ∧ (∀ m8, m8 = up m 90 x1 (m 91 x1) → ((inR (x1 + 1)) ∧ (Wq l G false Y_M_bringBack d (QV P) 2 [(0, .inr (.inr 70)), (1, .inl (x1 + 1))] [] m8))))))) : Wq l G false Y_M_bringBack d (QV P) 2 [(0, .inr (.inr 70)), (1, .inl x1)] [] m := by
  refine Wp.wf (fun hw _ hl hs => ?_)
  have H0 := H hw (hl _ (List.mem_of_getElem? (i := 1) rfl))
  refine Wp.iload_n 1 1 d_M_bringBack_2 rfl rfl ?_
  refine Wp.bipush d_M_bringBack_3 (by decide) (by decide) ?_
  obtain ⟨H2, H3⟩ := H0
  refine Wp.icmp_ge 26 d_M_bringBack_5 (by decide) (fun c1 => ?_) (fun c1 => ?_)
  · have H4 := H2 c1
    exact Wq.vret d_M_bringBack_26 rfl H4
  · have H5 := H3 c1
    refine Wp.aload_n 0 0 d_M_bringBack_8 rfl rfl ?_
    refine Wp.getP 90 d_M_bringBack_9 fl_M_73 rfl rfl rfl ?_
    refine Wp.iload_n 1 1 d_M_bringBack_12 rfl rfl ?_
    refine Wp.aload_n 0 0 d_M_bringBack_13 rfl rfl ?_
    refine Wp.getP 91 d_M_bringBack_14 fl_M_76 rfl rfl rfl ?_
    refine Wp.iload_n 1 1 d_M_bringBack_17 rfl rfl ?_
    obtain ⟨s6, H7⟩ := H5
    refine Wp.iald d_M_bringBack_18 rfl (Or.inl rfl) s6.1 s6.2 ?_
    obtain ⟨s15, H16⟩ := H7
    refine Wq.iast d_M_bringBack_19 rfl s15.1 s15.2 (fun m8 hm9 => ?_)
    have H10 := H16 m8 hm9
    obtain ⟨s13, H14⟩ := H10
    refine Wp.iinc 1 1 [(0, .inr (.inr 70)), (1, .inl (x1 + 1))] d_M_bringBack_20 rfl s13 (by decide) rfl ?_
    refine Wp.goto 2 d_M_bringBack_23 (by decide) ?_
    exact H14
theorem d_M_lies_0 : decode Y_M_lies.2.1 0 = .ok (.iload_n 1, 1) := by decide +kernel
theorem d_M_lies_1 : decode Y_M_lies.2.1 1 = .ok (.iconst 0, 1) := by decide +kernel
theorem d_M_lies_2 : decode Y_M_lies.2.1 2 = .ok (.aload_n 0, 1) := by decide +kernel
theorem d_M_lies_3 : decode Y_M_lies.2.1 3 = .ok (.getfield 369, 3) := by decide +kernel
theorem d_M_lies_6 : decode Y_M_lies.2.1 6 = .ok (.iconst 1, 1) := by decide +kernel
theorem d_M_lies_7 : decode Y_M_lies.2.1 7 = .ok (.isub, 1) := by decide +kernel
theorem d_M_lies_8 : decode Y_M_lies.2.1 8 = .ok (.invokestatic 341, 3) := by decide +kernel
theorem d_M_lies_11 : decode Y_M_lies.2.1 11 = .ok (.ifCond .eq 12, 3) := by decide +kernel
theorem d_M_lies_14 : decode Y_M_lies.2.1 14 = .ok (.aload_n 0, 1) := by decide +kernel
theorem d_M_lies_15 : decode Y_M_lies.2.1 15 = .ok (.getfield 94, 3) := by decide +kernel
theorem d_M_lies_18 : decode Y_M_lies.2.1 18 = .ok (.iload_n 1, 1) := by decide +kernel
theorem d_M_lies_19 : decode Y_M_lies.2.1 19 = .ok (.iaload, 1) := by decide +kernel
theorem d_M_lies_20 : decode Y_M_lies.2.1 20 = .ok (.goto 5, 3) := by decide +kernel
theorem d_M_lies_23 : decode Y_M_lies.2.1 23 = .ok (.bipush (-2), 2) := by decide +kernel
theorem d_M_lies_25 : decode Y_M_lies.2.1 25 = .ok (.ireturn, 1) := by decide +kernel
theorem e_M_lies {l : Launch} {G : GT} {d : Nat} {P : Int → MM → Prop} {m : MM} (x1 : Int)  (H : wfM m → inR x1 → (inR ((m 70 48) - 1)) ∧ (∃ (e3 : Nat) (P4 : Int → MM → Prop), e3 < d ∧ CI l G Y_M_isIn e3 [.inl x1, .inl 0, .inl ((m 70 48) - 1)] m P4 ∧ (∀ z9 m10, P4 z9 m10 → inR z9 → wfM m10 → ((z9 = 0 → (P (-2) m10)) ∧ (¬ (z9 = 0) → ((0 ≤ x1 ∧ x1 < (60 : Int)) ∧ (P (m10 97 x1) m10))))))) : CI l G Y_M_lies d [.inr (.inr 70), .inl x1] m P := by
  refine CI.of [(0, .inr (.inr 70)), (1, .inl x1)] k_M_lies.1 (Nat.le_of_ble_eq_true rfl) rfl (Wp.wf (fun hw _ hl hs => ?_))
  have H0 := H hw (hl _ (List.mem_of_getElem? (i := 1) rfl))
  refine Wp.iload_n 1 1 d_M_lies_0 rfl rfl ?_
  refine Wp.iconst d_M_lies_1 (by decide) ?_
  refine Wp.aload_n 0 0 d_M_lies_2 rfl rfl ?_
  refine Wq.getI 48 rfl d_M_lies_3 fl_M_369 rfl (Or.inl rfl) ?_
  refine Wp.iconst d_M_lies_6 (by decide) ?_
  obtain ⟨s1, H2⟩ := H0
  refine Wp.isub d_M_lies_7 s1 ?_
  obtain ⟨e3, P4, hd5, ho6, H7⟩ := H2
  refine Wq.SI (st := []) [.inl x1, .inl 0, .inl ((m 70 48) - 1)] d_M_lies_8 k_M_isIn ml_M_341 rfl  (fun h => by cases h) (Nat.le_of_ble_eq_true rfl) hd5 ho6 (fun z9 m10 hp11 hz12 hw13 => ?_)
  have H8 := H7 z9 m10 hp11 hz12 hw13
  obtain ⟨H15, H16⟩ := H8
  refine Wp.if_eq 23 d_M_lies_11 (by decide) (fun c14 => ?_) (fun c14 => ?_)
  · have H17 := H15 c14
    refine Wp.bipush d_M_lies_23 (by decide) (by decide) ?_
    exact Wq.iret d_M_lies_25 rfl H17
  · have H18 := H16 c14
    refine Wp.aload_n 0 0 d_M_lies_14 rfl rfl ?_
    refine Wp.getP 97 d_M_lies_15 fl_M_94 rfl rfl rfl ?_
    refine Wp.iload_n 1 1 d_M_lies_18 rfl rfl ?_
    obtain ⟨s19, H20⟩ := H18
    refine Wp.iald d_M_lies_19 rfl (Or.inl rfl) s19.1 s19.2 ?_
    refine Wp.goto 25 d_M_lies_20 (by decide) ?_
    exact Wq.iret d_M_lies_25 rfl H20
theorem d_M_row_0 : decode Y_M_row.2.1 0 = .ok (.aload_n 0, 1) := by decide +kernel
theorem d_M_row_1 : decode Y_M_row.2.1 1 = .ok (.iconst 0, 1) := by decide +kernel
theorem d_M_row_2 : decode Y_M_row.2.1 2 = .ok (.putfield 369, 3) := by decide +kernel
theorem d_M_row_5 : decode Y_M_row.2.1 5 = .ok (.aload_n 0, 1) := by decide +kernel
theorem d_M_row_6 : decode Y_M_row.2.1 6 = .ok (.invokevirtual 378, 3) := by decide +kernel
theorem d_M_row_9 : decode Y_M_row.2.1 9 = .ok (.aload_n 0, 1) := by decide +kernel
theorem d_M_row_10 : decode Y_M_row.2.1 10 = .ok (.invokevirtual 433, 3) := by decide +kernel
theorem d_M_row_13 : decode Y_M_row.2.1 13 = .ok (.istore_n 1, 1) := by decide +kernel
theorem d_M_row_14 : decode Y_M_row.2.1 14 = .ok (.iload_n 1, 1) := by decide +kernel
theorem d_M_row_15 : decode Y_M_row.2.1 15 = .ok (.ifCond .lt 46, 3) := by decide +kernel
theorem d_M_row_18 : decode Y_M_row.2.1 18 = .ok (.aload_n 0, 1) := by decide +kernel
theorem d_M_row_19 : decode Y_M_row.2.1 19 = .ok (.getfield 369, 3) := by decide +kernel
theorem d_M_row_22 : decode Y_M_row.2.1 22 = .ok (.bipush 60, 2) := by decide +kernel
theorem d_M_row_24 : decode Y_M_row.2.1 24 = .ok (.if_icmp .ge 37, 3) := by decide +kernel
theorem d_M_row_27 : decode Y_M_row.2.1 27 = .ok (.aload_n 0, 1) := by decide +kernel
theorem d_M_row_28 : decode Y_M_row.2.1 28 = .ok (.getfield 94, 3) := by decide +kernel
theorem d_M_row_31 : decode Y_M_row.2.1 31 = .ok (.aload_n 0, 1) := by decide +kernel
theorem d_M_row_32 : decode Y_M_row.2.1 32 = .ok (.getfield 369, 3) := by decide +kernel
theorem d_M_row_35 : decode Y_M_row.2.1 35 = .ok (.iload_n 1, 1) := by decide +kernel
theorem d_M_row_36 : decode Y_M_row.2.1 36 = .ok (.iastore, 1) := by decide +kernel
theorem d_M_row_37 : decode Y_M_row.2.1 37 = .ok (.aload_n 0, 1) := by decide +kernel
theorem d_M_row_38 : decode Y_M_row.2.1 38 = .ok (.dup, 1) := by decide +kernel
theorem d_M_row_39 : decode Y_M_row.2.1 39 = .ok (.getfield 369, 3) := by decide +kernel
theorem d_M_row_42 : decode Y_M_row.2.1 42 = .ok (.iconst 1, 1) := by decide +kernel
theorem d_M_row_43 : decode Y_M_row.2.1 43 = .ok (.iadd, 1) := by decide +kernel
theorem d_M_row_44 : decode Y_M_row.2.1 44 = .ok (.putfield 369, 3) := by decide +kernel
theorem d_M_row_47 : decode Y_M_row.2.1 47 = .ok (.aload_n 0, 1) := by decide +kernel
theorem d_M_row_48 : decode Y_M_row.2.1 48 = .ok (.iload_n 1, 1) := by decide +kernel
theorem d_M_row_49 : decode Y_M_row.2.1 49 = .ok (.iconst 1, 1) := by decide +kernel
theorem d_M_row_50 : decode Y_M_row.2.1 50 = .ok (.invokevirtual 375, 3) := by decide +kernel
theorem d_M_row_53 : decode Y_M_row.2.1 53 = .ok (.aload_n 0, 1) := by decide +kernel
theorem d_M_row_54 : decode Y_M_row.2.1 54 = .ok (.invokevirtual 433, 3) := by decide +kernel
theorem d_M_row_57 : decode Y_M_row.2.1 57 = .ok (.istore_n 1, 1) := by decide +kernel
theorem d_M_row_58 : decode Y_M_row.2.1 58 = .ok (.goto (-44), 3) := by decide +kernel
theorem d_M_row_61 : decode Y_M_row.2.1 61 = .ok (.aload_n 0, 1) := by decide +kernel
theorem d_M_row_62 : decode Y_M_row.2.1 62 = .ok (.getfield 369, 3) := by decide +kernel
theorem d_M_row_65 : decode Y_M_row.2.1 65 = .ok (.aload_n 0, 1) := by decide +kernel
theorem d_M_row_66 : decode Y_M_row.2.1 66 = .ok (.invokevirtual 381, 3) := by decide +kernel
theorem d_M_row_69 : decode Y_M_row.2.1 69 = .ok (.iadd, 1) := by decide +kernel
theorem d_M_row_70 : decode Y_M_row.2.1 70 = .ok (.ireturn, 1) := by decide +kernel
theorem e_M_row {l : Launch} {G : GT} {d : Nat} {P : Int → MM → Prop} {m : MM}   (H : wfM m → ∀ m1, m1 = up m 70 48 0 → (∃ (e4 : Nat) (P5 : MM → Prop), e4 < d ∧ CV l G Y_M_layNow e4 [.inr (.inr 70)] m1 P5 ∧ (∀ m11, P5 m11 → wfM m11 → (∃ (e15 : Nat) (P16 : Int → MM → Prop), e15 < d ∧ CI l G Y_M_leastOver e15 [.inr (.inr 70)] m11 P16 ∧ (∀ z21 m22, P16 z21 m22 → inR z21 → wfM m22 → (Wq l G false Y_M_row d (QI P) 14 [(0, .inr (.inr 70)), (1, .inl z21)] [] m22)))))) : CI l G Y_M_row d [.inr (.inr 70)] m P := by
  refine CI.of [(0, .inr (.inr 70))] k_M_row.1 (Nat.le_of_ble_eq_true rfl) rfl (Wp.wf (fun hw _ hl hs => ?_))
  have H0 := H hw
  refine Wp.aload_n 0 0 d_M_row_0 rfl rfl ?_
  refine Wp.iconst d_M_row_1 (by decide) ?_
  refine Wq.putI 48 rfl d_M_row_2 fl_M_369 (fun _ _ _ h => by cases h; rfl) rfl rfl rfl (fun m1 hm2 => ?_)
  have H3 := H0 m1 hm2
  refine Wp.aload_n 0 0 d_M_row_5 rfl rfl ?_
  obtain ⟨e4, P5, hd6, ho7, H8⟩ := H3
  refine Wq.VV (st := []) [] d_M_row_6 k_M_layNow ml_M_378 rfl rfl rfl (fun h => by cases h) (Nat.le_of_ble_eq_true rfl) hd6 ho7 (fun m11 hp12 hw14 => ?_)
  have H9 := H8 m11 hp12 hw14
  refine Wp.aload_n 0 0 d_M_row_9 rfl rfl ?_
  obtain ⟨e15, P16, hd17, ho18, H19⟩ := H9
  refine Wq.VI (st := []) [] d_M_row_10 k_M_leastOver ml_M_433 rfl rfl rfl (fun h => by cases h) (Nat.le_of_ble_eq_true rfl) hd17 ho18 (fun z21 m22 hp23 hz24 hw25 => ?_)
  have H20 := H19 z21 m22 hp23 hz24 hw25
  refine Wp.istore_n 1 [(0, .inr (.inr 70)), (1, .inl z21)] d_M_row_13 rfl (by decide) rfl ?_
  exact H20
theorem s_M_row_14 {l : Launch} {G : GT} {d : Nat} {P : Int → MM → Prop} {m : MM} (x1 : Int)  (H : wfM m → inR x1 → (x1 < 0 → (∃ (e6 : Nat) (P7 : Int → MM → Prop), e6 < d ∧ CI l G Y_M_settleHeap e6 [.inr (.inr 70)] m P7 ∧ (∀ z12 m13, P7 z12 m13 → inR z12 → wfM m13 → ((inR ((m 70 48) + z12)) ∧ (P ((m 70 48) + z12) m13))))) ∧ (¬ (x1 < 0) → (((m 70 48) ≥ 60 → (∃ (e24 : Nat) (P25 : Int → MM → Prop), e24 < d ∧ CI l G Y_M_settleHeap e24 [.inr (.inr 70)] m P25 ∧ (∀ z30 m31, P25 z30 m31 → inR z30 → wfM m31 → ((inR ((m 70 48) + z30)) ∧ (P ((m 70 48) + z30) m31))))) ∧ (¬ ((m 70 48) ≥ 60) → ((0 ≤ (m 70 48) ∧ (m 70 48) < (60 : Int)) ∧ (∀ m37, m37 = up m 97 (m 70 48) x1 → ((inR ((m37 70 48) + 1)) ∧ (∀ m44, m44 = up m37 70 48 ((m37 70 48) + 1) → (∃ (e47 : Nat) (P48 : MM → Prop), e47 < d ∧ CV l G Y_M_toppleIn e47 [.inr (.inr 70), .inl x1, .inl 1] m44 P48 ∧ (∀ m54, P48 m54 → wfM m54 → (∃ (e58 : Nat) (P59 : Int → MM → Prop), e58 < d ∧ CI l G Y_M_leastOver e58 [.inr (.inr 70)] m54 P59 ∧ (∀ z64 m65, P59 z64 m65 → inR z64 → wfM m65 → (Wq l G false Y_M_row d (QI P) 14 [(0, .inr (.inr 70)), (1, .inl z64)] [] m65))))))))))))) : Wq l G false Y_M_row d (QI P) 14 [(0, .inr (.inr 70)), (1, .inl x1)] [] m := by
  refine Wp.wf (fun hw _ hl hs => ?_)
  have H0 := H hw (hl _ (List.mem_of_getElem? (i := 1) rfl))
  refine Wp.iload_n 1 1 d_M_row_14 rfl rfl ?_
  obtain ⟨H2, H3⟩ := H0
  refine Wp.if_lt 61 d_M_row_15 (by decide) (fun c1 => ?_) (fun c1 => ?_)
  · have H4 := H2 c1
    refine Wp.aload_n 0 0 d_M_row_61 rfl rfl ?_
    refine Wq.getI 48 rfl d_M_row_62 fl_M_369 rfl (Or.inl rfl) ?_
    refine Wp.aload_n 0 0 d_M_row_65 rfl rfl ?_
    obtain ⟨e6, P7, hd8, ho9, H10⟩ := H4
    refine Wq.VI (st := [.inl (m 70 48)]) [] d_M_row_66 k_M_settleHeap ml_M_381 rfl rfl rfl (fun h => by cases h) (Nat.le_of_ble_eq_true rfl) hd8 ho9 (fun z12 m13 hp14 hz15 hw16 => ?_)
    have H11 := H10 z12 m13 hp14 hz15 hw16
    obtain ⟨s17, H18⟩ := H11
    refine Wp.iadd d_M_row_69 s17 ?_
    exact Wq.iret d_M_row_70 rfl H18
  · have H5 := H3 c1
    refine Wp.aload_n 0 0 d_M_row_18 rfl rfl ?_
    refine Wq.getI 48 rfl d_M_row_19 fl_M_369 rfl (Or.inl rfl) ?_
    refine Wp.bipush d_M_row_22 (by decide) (by decide) ?_
    obtain ⟨H20, H21⟩ := H5
    refine Wp.icmp_ge 61 d_M_row_24 (by decide) (fun c19 => ?_) (fun c19 => ?_)
    · have H22 := H20 c19
      refine Wp.aload_n 0 0 d_M_row_61 rfl rfl ?_
      refine Wq.getI 48 rfl d_M_row_62 fl_M_369 rfl (Or.inl rfl) ?_
      refine Wp.aload_n 0 0 d_M_row_65 rfl rfl ?_
      obtain ⟨e24, P25, hd26, ho27, H28⟩ := H22
      refine Wq.VI (st := [.inl (m 70 48)]) [] d_M_row_66 k_M_settleHeap ml_M_381 rfl rfl rfl (fun h => by cases h) (Nat.le_of_ble_eq_true rfl) hd26 ho27 (fun z30 m31 hp32 hz33 hw34 => ?_)
      have H29 := H28 z30 m31 hp32 hz33 hw34
      obtain ⟨s35, H36⟩ := H29
      refine Wp.iadd d_M_row_69 s35 ?_
      exact Wq.iret d_M_row_70 rfl H36
    · have H23 := H21 c19
      refine Wp.aload_n 0 0 d_M_row_27 rfl rfl ?_
      refine Wp.getP 97 d_M_row_28 fl_M_94 rfl rfl rfl ?_
      refine Wp.aload_n 0 0 d_M_row_31 rfl rfl ?_
      refine Wq.getI 48 rfl d_M_row_32 fl_M_369 rfl (Or.inl rfl) ?_
      refine Wp.iload_n 1 1 d_M_row_35 rfl rfl ?_
      obtain ⟨s69, H70⟩ := H23
      refine Wq.iast d_M_row_36 rfl s69.1 s69.2 (fun m37 hm38 => ?_)
      have H39 := H70 m37 hm38
      refine Wp.aload_n 0 0 d_M_row_37 rfl rfl ?_
      refine Wp.dup d_M_row_38 rfl ?_
      refine Wq.getI 48 rfl d_M_row_39 fl_M_369 rfl (Or.inl rfl) ?_
      refine Wp.iconst d_M_row_42 (by decide) ?_
      obtain ⟨s42, H43⟩ := H39
      refine Wp.iadd d_M_row_43 s42 ?_
      refine Wq.putI 48 rfl d_M_row_44 fl_M_369 (fun _ _ _ h => by cases h; rfl) rfl rfl rfl (fun m44 hm45 => ?_)
      have H46 := H43 m44 hm45
      refine Wp.aload_n 0 0 d_M_row_47 rfl rfl ?_
      refine Wp.iload_n 1 1 d_M_row_48 rfl rfl ?_
      refine Wp.iconst d_M_row_49 (by decide) ?_
      obtain ⟨e47, P48, hd49, ho50, H51⟩ := H46
      refine Wq.VV (st := []) [.inl x1, .inl 1] d_M_row_50 k_M_toppleIn ml_M_375 rfl rfl rfl (fun h => by cases h) (Nat.le_of_ble_eq_true rfl) hd49 ho50 (fun m54 hp55 hw57 => ?_)
      have H52 := H51 m54 hp55 hw57
      refine Wp.aload_n 0 0 d_M_row_53 rfl rfl ?_
      obtain ⟨e58, P59, hd60, ho61, H62⟩ := H52
      refine Wq.VI (st := []) [] d_M_row_54 k_M_leastOver ml_M_433 rfl rfl rfl (fun h => by cases h) (Nat.le_of_ble_eq_true rfl) hd60 ho61 (fun z64 m65 hp66 hz67 hw68 => ?_)
      have H63 := H62 z64 m65 hp66 hz67 hw68
      refine Wp.istore_n 1 [(0, .inr (.inr 70)), (1, .inl z64)] d_M_row_57 rfl (by decide) rfl ?_
      refine Wp.goto 14 d_M_row_58 (by decide) ?_
      exact H63
theorem d_M_leastOver_0 : decode Y_M_leastOver.2.1 0 = .ok (.iconst 0, 1) := by decide +kernel
theorem d_M_leastOver_1 : decode Y_M_leastOver.2.1 1 = .ok (.istore_n 1, 1) := by decide +kernel
theorem d_M_leastOver_2 : decode Y_M_leastOver.2.1 2 = .ok (.iload_n 1, 1) := by decide +kernel
theorem d_M_leastOver_3 : decode Y_M_leastOver.2.1 3 = .ok (.aload_n 0, 1) := by decide +kernel
theorem d_M_leastOver_4 : decode Y_M_leastOver.2.1 4 = .ok (.invokevirtual 338, 3) := by decide +kernel
theorem d_M_leastOver_7 : decode Y_M_leastOver.2.1 7 = .ok (.if_icmp .ge 25, 3) := by decide +kernel
theorem d_M_leastOver_10 : decode Y_M_leastOver.2.1 10 = .ok (.aload_n 0, 1) := by decide +kernel
theorem d_M_leastOver_11 : decode Y_M_leastOver.2.1 11 = .ok (.getfield 82, 3) := by decide +kernel
theorem d_M_leastOver_14 : decode Y_M_leastOver.2.1 14 = .ok (.iload_n 1, 1) := by decide +kernel
theorem d_M_leastOver_15 : decode Y_M_leastOver.2.1 15 = .ok (.iaload, 1) := by decide +kernel
theorem d_M_leastOver_16 : decode Y_M_leastOver.2.1 16 = .ok (.aload_n 0, 1) := by decide +kernel
theorem d_M_leastOver_17 : decode Y_M_leastOver.2.1 17 = .ok (.iload_n 1, 1) := by decide +kernel
theorem d_M_leastOver_18 : decode Y_M_leastOver.2.1 18 = .ok (.invokevirtual 328, 3) := by decide +kernel
theorem d_M_leastOver_21 : decode Y_M_leastOver.2.1 21 = .ok (.if_icmp .lt 5, 3) := by decide +kernel
theorem d_M_leastOver_24 : decode Y_M_leastOver.2.1 24 = .ok (.iload_n 1, 1) := by decide +kernel
theorem d_M_leastOver_25 : decode Y_M_leastOver.2.1 25 = .ok (.ireturn, 1) := by decide +kernel
theorem d_M_leastOver_26 : decode Y_M_leastOver.2.1 26 = .ok (.iinc 1 1, 3) := by decide +kernel
theorem d_M_leastOver_29 : decode Y_M_leastOver.2.1 29 = .ok (.goto (-27), 3) := by decide +kernel
theorem d_M_leastOver_32 : decode Y_M_leastOver.2.1 32 = .ok (.iconst (-1), 1) := by decide +kernel
theorem d_M_leastOver_33 : decode Y_M_leastOver.2.1 33 = .ok (.ireturn, 1) := by decide +kernel
theorem e_M_leastOver {l : Launch} {G : GT} {d : Nat} {P : Int → MM → Prop} {m : MM}   (H : wfM m → Wq l G false Y_M_leastOver d (QI P) 2 [(0, .inr (.inr 70)), (1, .inl 0)] [] m) : CI l G Y_M_leastOver d [.inr (.inr 70)] m P := by
  refine CI.of [(0, .inr (.inr 70))] k_M_leastOver.1 (Nat.le_of_ble_eq_true rfl) rfl (Wp.wf (fun hw _ hl hs => ?_))
  have H0 := H hw
  refine Wp.iconst d_M_leastOver_0 (by decide) ?_
  refine Wp.istore_n 1 [(0, .inr (.inr 70)), (1, .inl 0)] d_M_leastOver_1 rfl (by decide) rfl ?_
  exact H0
theorem s_M_leastOver_2 {l : Launch} {G : GT} {d : Nat} {P : Int → MM → Prop} {m : MM} (x1 : Int)  (H : wfM m → inR x1 → ∃ (e1 : Nat) (P2 : Int → MM → Prop), e1 < d ∧ CI l G Y_M_lots e1 [.inr (.inr 70)] m P2 ∧ (∀ z7 m8, P2 z7 m8 → inR z7 → wfM m8 → ((x1 ≥ z7 → (P (-1) m8)) ∧ (¬ (x1 ≥ z7) → ((0 ≤ x1 ∧ x1 < (5 : Int)) ∧ (∃ (e19 : Nat) (P20 : Int → MM → Prop), e19 < d ∧ CI l G Y_M_brimOf e19 [.inr (.inr 70), .inl x1] m8 P20 ∧ (∀ z25 m26, P20 z25 m26 → inR z25 → wfM m26 → (((m8 93 x1) < z25 → ((inR (x1 + 1)) ∧ (Wq l G false Y_M_leastOver d (QI P) 2 [(0, .inr (.inr 70)), (1, .inl (x1 + 1))] [] m26))) ∧ (¬ ((m8 93 x1) < z25) → (P x1 m26)))))))))) : Wq l G false Y_M_leastOver d (QI P) 2 [(0, .inr (.inr 70)), (1, .inl x1)] [] m := by
  refine Wp.wf (fun hw _ hl hs => ?_)
  have H0 := H hw (hl _ (List.mem_of_getElem? (i := 1) rfl))
  refine Wp.iload_n 1 1 d_M_leastOver_2 rfl rfl ?_
  refine Wp.aload_n 0 0 d_M_leastOver_3 rfl rfl ?_
  obtain ⟨e1, P2, hd3, ho4, H5⟩ := H0
  refine Wq.VI (st := [.inl x1]) [] d_M_leastOver_4 k_M_lots ml_M_338 rfl rfl rfl (fun h => by cases h) (Nat.le_of_ble_eq_true rfl) hd3 ho4 (fun z7 m8 hp9 hz10 hw11 => ?_)
  have H6 := H5 z7 m8 hp9 hz10 hw11
  obtain ⟨H13, H14⟩ := H6
  refine Wp.icmp_ge 32 d_M_leastOver_7 (by decide) (fun c12 => ?_) (fun c12 => ?_)
  · have H15 := H13 c12
    refine Wp.iconst d_M_leastOver_32 (by decide) ?_
    exact Wq.iret d_M_leastOver_33 rfl H15
  · have H16 := H14 c12
    refine Wp.aload_n 0 0 d_M_leastOver_10 rfl rfl ?_
    refine Wp.getP 93 d_M_leastOver_11 fl_M_82 rfl rfl rfl ?_
    refine Wp.iload_n 1 1 d_M_leastOver_14 rfl rfl ?_
    obtain ⟨s17, H18⟩ := H16
    refine Wp.iald d_M_leastOver_15 rfl (Or.inl rfl) s17.1 s17.2 ?_
    refine Wp.aload_n 0 0 d_M_leastOver_16 rfl rfl ?_
    refine Wp.iload_n 1 1 d_M_leastOver_17 rfl rfl ?_
    obtain ⟨e19, P20, hd21, ho22, H23⟩ := H18
    refine Wq.VI (st := [.inl (m8 93 x1)]) [.inl x1] d_M_leastOver_18 k_M_brimOf ml_M_328 rfl rfl rfl (fun h => by cases h) (Nat.le_of_ble_eq_true rfl) hd21 ho22 (fun z25 m26 hp27 hz28 hw29 => ?_)
    have H24 := H23 z25 m26 hp27 hz28 hw29
    obtain ⟨H31, H32⟩ := H24
    refine Wp.icmp_lt 26 d_M_leastOver_21 (by decide) (fun c30 => ?_) (fun c30 => ?_)
    · have H33 := H31 c30
      obtain ⟨s35, H36⟩ := H33
      refine Wp.iinc 1 1 [(0, .inr (.inr 70)), (1, .inl (x1 + 1))] d_M_leastOver_26 rfl s35 (by decide) rfl ?_
      refine Wp.goto 2 d_M_leastOver_29 (by decide) ?_
      exact H36
    · have H34 := H32 c30
      refine Wp.iload_n 1 1 d_M_leastOver_24 rfl rfl ?_
      exact Wq.iret d_M_leastOver_25 rfl H34
theorem d_M_rounds_0 : decode Y_M_rounds.2.1 0 = .ok (.aload_n 0, 1) := by decide +kernel
theorem d_M_rounds_1 : decode Y_M_rounds.2.1 1 = .ok (.invokevirtual 378, 3) := by decide +kernel
theorem d_M_rounds_4 : decode Y_M_rounds.2.1 4 = .ok (.iconst 0, 1) := by decide +kernel
theorem d_M_rounds_5 : decode Y_M_rounds.2.1 5 = .ok (.istore_n 1, 1) := by decide +kernel
theorem d_M_rounds_6 : decode Y_M_rounds.2.1 6 = .ok (.aload_n 0, 1) := by decide +kernel
theorem d_M_rounds_7 : decode Y_M_rounds.2.1 7 = .ok (.invokevirtual 433, 3) := by decide +kernel
theorem d_M_rounds_10 : decode Y_M_rounds.2.1 10 = .ok (.ifCond .lt 77, 3) := by decide +kernel
theorem d_M_rounds_13 : decode Y_M_rounds.2.1 13 = .ok (.iconst 0, 1) := by decide +kernel
theorem d_M_rounds_14 : decode Y_M_rounds.2.1 14 = .ok (.istore_n 2, 1) := by decide +kernel
theorem d_M_rounds_15 : decode Y_M_rounds.2.1 15 = .ok (.iconst 0, 1) := by decide +kernel
theorem d_M_rounds_16 : decode Y_M_rounds.2.1 16 = .ok (.istore_n 3, 1) := by decide +kernel
theorem d_M_rounds_17 : decode Y_M_rounds.2.1 17 = .ok (.iload_n 3, 1) := by decide +kernel
theorem d_M_rounds_18 : decode Y_M_rounds.2.1 18 = .ok (.aload_n 0, 1) := by decide +kernel
theorem d_M_rounds_19 : decode Y_M_rounds.2.1 19 = .ok (.invokevirtual 338, 3) := by decide +kernel
theorem d_M_rounds_22 : decode Y_M_rounds.2.1 22 = .ok (.if_icmp .ge 29, 3) := by decide +kernel
theorem d_M_rounds_25 : decode Y_M_rounds.2.1 25 = .ok (.aload_n 0, 1) := by decide +kernel
theorem d_M_rounds_26 : decode Y_M_rounds.2.1 26 = .ok (.getfield 82, 3) := by decide +kernel
theorem d_M_rounds_29 : decode Y_M_rounds.2.1 29 = .ok (.iload_n 3, 1) := by decide +kernel
theorem d_M_rounds_30 : decode Y_M_rounds.2.1 30 = .ok (.iaload, 1) := by decide +kernel
theorem d_M_rounds_31 : decode Y_M_rounds.2.1 31 = .ok (.aload_n 0, 1) := by decide +kernel
theorem d_M_rounds_32 : decode Y_M_rounds.2.1 32 = .ok (.iload_n 3, 1) := by decide +kernel
theorem d_M_rounds_33 : decode Y_M_rounds.2.1 33 = .ok (.invokevirtual 328, 3) := by decide +kernel
theorem d_M_rounds_36 : decode Y_M_rounds.2.1 36 = .ok (.if_icmp .lt 9, 3) := by decide +kernel
theorem d_M_rounds_39 : decode Y_M_rounds.2.1 39 = .ok (.iload_n 2, 1) := by decide +kernel
theorem d_M_rounds_40 : decode Y_M_rounds.2.1 40 = .ok (.iconst 1, 1) := by decide +kernel
theorem d_M_rounds_41 : decode Y_M_rounds.2.1 41 = .ok (.iload_n 3, 1) := by decide +kernel
theorem d_M_rounds_42 : decode Y_M_rounds.2.1 42 = .ok (.ishl, 1) := by decide +kernel
theorem d_M_rounds_43 : decode Y_M_rounds.2.1 43 = .ok (.ior, 1) := by decide +kernel
theorem d_M_rounds_44 : decode Y_M_rounds.2.1 44 = .ok (.istore_n 2, 1) := by decide +kernel
theorem d_M_rounds_45 : decode Y_M_rounds.2.1 45 = .ok (.iinc 3 1, 3) := by decide +kernel
theorem d_M_rounds_48 : decode Y_M_rounds.2.1 48 = .ok (.goto (-31), 3) := by decide +kernel
theorem d_M_rounds_51 : decode Y_M_rounds.2.1 51 = .ok (.iconst 0, 1) := by decide +kernel
theorem d_M_rounds_52 : decode Y_M_rounds.2.1 52 = .ok (.istore_n 3, 1) := by decide +kernel
theorem d_M_rounds_53 : decode Y_M_rounds.2.1 53 = .ok (.iload_n 3, 1) := by decide +kernel
theorem d_M_rounds_54 : decode Y_M_rounds.2.1 54 = .ok (.aload_n 0, 1) := by decide +kernel
theorem d_M_rounds_55 : decode Y_M_rounds.2.1 55 = .ok (.invokevirtual 338, 3) := by decide +kernel
theorem d_M_rounds_58 : decode Y_M_rounds.2.1 58 = .ok (.if_icmp .ge 23, 3) := by decide +kernel
theorem d_M_rounds_61 : decode Y_M_rounds.2.1 61 = .ok (.iload_n 2, 1) := by decide +kernel
theorem d_M_rounds_62 : decode Y_M_rounds.2.1 62 = .ok (.iload_n 3, 1) := by decide +kernel
theorem d_M_rounds_63 : decode Y_M_rounds.2.1 63 = .ok (.invokestatic 252, 3) := by decide +kernel
theorem d_M_rounds_66 : decode Y_M_rounds.2.1 66 = .ok (.ifCond .eq 9, 3) := by decide +kernel
theorem d_M_rounds_69 : decode Y_M_rounds.2.1 69 = .ok (.aload_n 0, 1) := by decide +kernel
theorem d_M_rounds_70 : decode Y_M_rounds.2.1 70 = .ok (.iload_n 3, 1) := by decide +kernel
theorem d_M_rounds_71 : decode Y_M_rounds.2.1 71 = .ok (.iconst 1, 1) := by decide +kernel
theorem d_M_rounds_72 : decode Y_M_rounds.2.1 72 = .ok (.invokevirtual 375, 3) := by decide +kernel
theorem d_M_rounds_75 : decode Y_M_rounds.2.1 75 = .ok (.iinc 3 1, 3) := by decide +kernel
theorem d_M_rounds_78 : decode Y_M_rounds.2.1 78 = .ok (.goto (-25), 3) := by decide +kernel
theorem d_M_rounds_81 : decode Y_M_rounds.2.1 81 = .ok (.iinc 1 1, 3) := by decide +kernel
theorem d_M_rounds_84 : decode Y_M_rounds.2.1 84 = .ok (.goto (-78), 3) := by decide +kernel
theorem d_M_rounds_87 : decode Y_M_rounds.2.1 87 = .ok (.iload_n 1, 1) := by decide +kernel
theorem d_M_rounds_88 : decode Y_M_rounds.2.1 88 = .ok (.ireturn, 1) := by decide +kernel
theorem e_M_rounds {l : Launch} {G : GT} {d : Nat} {P : Int → MM → Prop} {m : MM}   (H : wfM m → ∃ (e1 : Nat) (P2 : MM → Prop), e1 < d ∧ CV l G Y_M_layNow e1 [.inr (.inr 70)] m P2 ∧ (∀ m8, P2 m8 → wfM m8 → (Wq l G false Y_M_rounds d (QI P) 6 [(0, .inr (.inr 70)), (1, .inl 0)] [] m8))) : CI l G Y_M_rounds d [.inr (.inr 70)] m P := by
  refine CI.of [(0, .inr (.inr 70))] k_M_rounds.1 (Nat.le_of_ble_eq_true rfl) rfl (Wp.wf (fun hw _ hl hs => ?_))
  have H0 := H hw
  refine Wp.aload_n 0 0 d_M_rounds_0 rfl rfl ?_
  obtain ⟨e1, P2, hd3, ho4, H5⟩ := H0
  refine Wq.VV (st := []) [] d_M_rounds_1 k_M_layNow ml_M_378 rfl rfl rfl (fun h => by cases h) (Nat.le_of_ble_eq_true rfl) hd3 ho4 (fun m8 hp9 hw11 => ?_)
  have H6 := H5 m8 hp9 hw11
  refine Wp.iconst d_M_rounds_4 (by decide) ?_
  refine Wp.istore_n 1 [(0, .inr (.inr 70)), (1, .inl 0)] d_M_rounds_5 rfl (by decide) rfl ?_
  exact H6
theorem s_M_rounds_6 {l : Launch} {G : GT} {d : Nat} {P : Int → MM → Prop} {m : MM} (x1 : Int)  (H : wfM m → inR x1 → ∃ (e1 : Nat) (P2 : Int → MM → Prop), e1 < d ∧ CI l G Y_M_leastOver e1 [.inr (.inr 70)] m P2 ∧ (∀ z7 m8, P2 z7 m8 → inR z7 → wfM m8 → ((z7 < 0 → (P x1 m8)) ∧ (¬ (z7 < 0) → (Wq l G false Y_M_rounds d (QI P) 17 [(0, .inr (.inr 70)), (1, .inl x1), (2, .inl 0), (3, .inl 0)] [] m8))))) : Wq l G false Y_M_rounds d (QI P) 6 [(0, .inr (.inr 70)), (1, .inl x1)] [] m := by
  refine Wp.wf (fun hw _ hl hs => ?_)
  have H0 := H hw (hl _ (List.mem_of_getElem? (i := 1) rfl))
  refine Wp.aload_n 0 0 d_M_rounds_6 rfl rfl ?_
  obtain ⟨e1, P2, hd3, ho4, H5⟩ := H0
  refine Wq.VI (st := []) [] d_M_rounds_7 k_M_leastOver ml_M_433 rfl rfl rfl (fun h => by cases h) (Nat.le_of_ble_eq_true rfl) hd3 ho4 (fun z7 m8 hp9 hz10 hw11 => ?_)
  have H6 := H5 z7 m8 hp9 hz10 hw11
  obtain ⟨H13, H14⟩ := H6
  refine Wp.if_lt 87 d_M_rounds_10 (by decide) (fun c12 => ?_) (fun c12 => ?_)
  · have H15 := H13 c12
    refine Wp.iload_n 1 1 d_M_rounds_87 rfl rfl ?_
    exact Wq.iret d_M_rounds_88 rfl H15
  · have H16 := H14 c12
    refine Wp.iconst d_M_rounds_13 (by decide) ?_
    refine Wp.istore_n 2 [(0, .inr (.inr 70)), (1, .inl x1), (2, .inl 0)] d_M_rounds_14 rfl (by decide) rfl ?_
    refine Wp.iconst d_M_rounds_15 (by decide) ?_
    refine Wp.istore_n 3 [(0, .inr (.inr 70)), (1, .inl x1), (2, .inl 0), (3, .inl 0)] d_M_rounds_16 rfl (by decide) rfl ?_
    exact H16
theorem s_M_rounds_17 {l : Launch} {G : GT} {d : Nat} {P : Int → MM → Prop} {m : MM} (x1 : Int) (x2 : Int) (x3 : Int)  (H : wfM m → inR x1 → inR x2 → inR x3 → ∃ (e1 : Nat) (P2 : Int → MM → Prop), e1 < d ∧ CI l G Y_M_lots e1 [.inr (.inr 70)] m P2 ∧ (∀ z7 m8, P2 z7 m8 → inR z7 → wfM m8 → ((x3 ≥ z7 → (Wq l G false Y_M_rounds d (QI P) 53 [(0, .inr (.inr 70)), (1, .inl x1), (2, .inl x2), (3, .inl 0)] [] m8)) ∧ (¬ (x3 ≥ z7) → ((0 ≤ x3 ∧ x3 < (5 : Int)) ∧ (∃ (e19 : Nat) (P20 : Int → MM → Prop), e19 < d ∧ CI l G Y_M_brimOf e19 [.inr (.inr 70), .inl x3] m8 P20 ∧ (∀ z25 m26, P20 z25 m26 → inR z25 → wfM m26 → (((m8 93 x3) < z25 → ((inR (x3 + 1)) ∧ (Wq l G false Y_M_rounds d (QI P) 17 [(0, .inr (.inr 70)), (1, .inl x1), (2, .inl x2), (3, .inl (x3 + 1))] [] m26))) ∧ (¬ ((m8 93 x3) < z25) → ((inR (x3 + 1)) ∧ (Wq l G false Y_M_rounds d (QI P) 17 [(0, .inr (.inr 70)), (1, .inl x1), (2, .inl (bOr x2 (bShl 1 x3))), (3, .inl (x3 + 1))] [] m26))))))))))) : Wq l G false Y_M_rounds d (QI P) 17 [(0, .inr (.inr 70)), (1, .inl x1), (2, .inl x2), (3, .inl x3)] [] m := by
  refine Wp.wf (fun hw _ hl hs => ?_)
  have H0 := H hw (hl _ (List.mem_of_getElem? (i := 1) rfl)) (hl _ (List.mem_of_getElem? (i := 2) rfl)) (hl _ (List.mem_of_getElem? (i := 3) rfl))
  refine Wp.iload_n 3 3 d_M_rounds_17 rfl rfl ?_
  refine Wp.aload_n 0 0 d_M_rounds_18 rfl rfl ?_
  obtain ⟨e1, P2, hd3, ho4, H5⟩ := H0
  refine Wq.VI (st := [.inl x3]) [] d_M_rounds_19 k_M_lots ml_M_338 rfl rfl rfl (fun h => by cases h) (Nat.le_of_ble_eq_true rfl) hd3 ho4 (fun z7 m8 hp9 hz10 hw11 => ?_)
  have H6 := H5 z7 m8 hp9 hz10 hw11
  obtain ⟨H13, H14⟩ := H6
  refine Wp.icmp_ge 51 d_M_rounds_22 (by decide) (fun c12 => ?_) (fun c12 => ?_)
  · have H15 := H13 c12
    refine Wp.iconst d_M_rounds_51 (by decide) ?_
    refine Wp.istore_n 3 [(0, .inr (.inr 70)), (1, .inl x1), (2, .inl x2), (3, .inl 0)] d_M_rounds_52 rfl (by decide) rfl ?_
    exact H15
  · have H16 := H14 c12
    refine Wp.aload_n 0 0 d_M_rounds_25 rfl rfl ?_
    refine Wp.getP 93 d_M_rounds_26 fl_M_82 rfl rfl rfl ?_
    refine Wp.iload_n 3 3 d_M_rounds_29 rfl rfl ?_
    obtain ⟨s17, H18⟩ := H16
    refine Wp.iald d_M_rounds_30 rfl (Or.inl rfl) s17.1 s17.2 ?_
    refine Wp.aload_n 0 0 d_M_rounds_31 rfl rfl ?_
    refine Wp.iload_n 3 3 d_M_rounds_32 rfl rfl ?_
    obtain ⟨e19, P20, hd21, ho22, H23⟩ := H18
    refine Wq.VI (st := [.inl (m8 93 x3)]) [.inl x3] d_M_rounds_33 k_M_brimOf ml_M_328 rfl rfl rfl (fun h => by cases h) (Nat.le_of_ble_eq_true rfl) hd21 ho22 (fun z25 m26 hp27 hz28 hw29 => ?_)
    have H24 := H23 z25 m26 hp27 hz28 hw29
    obtain ⟨H31, H32⟩ := H24
    refine Wp.icmp_lt 45 d_M_rounds_36 (by decide) (fun c30 => ?_) (fun c30 => ?_)
    · have H33 := H31 c30
      obtain ⟨s35, H36⟩ := H33
      refine Wp.iinc 3 3 [(0, .inr (.inr 70)), (1, .inl x1), (2, .inl x2), (3, .inl (x3 + 1))] d_M_rounds_45 rfl s35 (by decide) rfl ?_
      refine Wp.goto 17 d_M_rounds_48 (by decide) ?_
      exact H36
    · have H34 := H32 c30
      refine Wp.iload_n 2 2 d_M_rounds_39 rfl rfl ?_
      refine Wp.iconst d_M_rounds_40 (by decide) ?_
      refine Wp.iload_n 3 3 d_M_rounds_41 rfl rfl ?_
      refine Wp.ishl d_M_rounds_42 ?_
      refine Wp.ior d_M_rounds_43 ?_
      refine Wp.istore_n 2 [(0, .inr (.inr 70)), (1, .inl x1), (2, .inl (bOr x2 (bShl 1 x3))), (3, .inl x3)] d_M_rounds_44 rfl (by decide) rfl ?_
      obtain ⟨s37, H38⟩ := H34
      refine Wp.iinc 3 3 [(0, .inr (.inr 70)), (1, .inl x1), (2, .inl (bOr x2 (bShl 1 x3))), (3, .inl (x3 + 1))] d_M_rounds_45 rfl s37 (by decide) rfl ?_
      refine Wp.goto 17 d_M_rounds_48 (by decide) ?_
      exact H38
theorem s_M_rounds_53 {l : Launch} {G : GT} {d : Nat} {P : Int → MM → Prop} {m : MM} (x1 : Int) (x2 : Int) (x3 : Int)  (H : wfM m → inR x1 → inR x2 → inR x3 → ∃ (e1 : Nat) (P2 : Int → MM → Prop), e1 < d ∧ CI l G Y_M_lots e1 [.inr (.inr 70)] m P2 ∧ (∀ z7 m8, P2 z7 m8 → inR z7 → wfM m8 → ((x3 ≥ z7 → ((inR (x1 + 1)) ∧ (Wq l G false Y_M_rounds d (QI P) 6 [(0, .inr (.inr 70)), (1, .inl (x1 + 1))] [] m8))) ∧ (¬ (x3 ≥ z7) → (∃ (e19 : Nat) (P20 : Int → MM → Prop), e19 < d ∧ CI l G Y_M_bit e19 [.inl x2, .inl x3] m8 P20 ∧ (∀ z25 m26, P20 z25 m26 → inR z25 → wfM m26 → ((z25 = 0 → ((inR (x3 + 1)) ∧ (Wq l G false Y_M_rounds d (QI P) 53 [(0, .inr (.inr 70)), (1, .inl x1), (2, .inl x2), (3, .inl (x3 + 1))] [] m26))) ∧ (¬ (z25 = 0) → (∃ (e37 : Nat) (P38 : MM → Prop), e37 < d ∧ CV l G Y_M_toppleIn e37 [.inr (.inr 70), .inl x3, .inl 1] m26 P38 ∧ (∀ m44, P38 m44 → wfM m44 → ((inR (x3 + 1)) ∧ (Wq l G false Y_M_rounds d (QI P) 53 [(0, .inr (.inr 70)), (1, .inl x1), (2, .inl x2), (3, .inl (x3 + 1))] [] m44)))))))))))) : Wq l G false Y_M_rounds d (QI P) 53 [(0, .inr (.inr 70)), (1, .inl x1), (2, .inl x2), (3, .inl x3)] [] m := by
  refine Wp.wf (fun hw _ hl hs => ?_)
  have H0 := H hw (hl _ (List.mem_of_getElem? (i := 1) rfl)) (hl _ (List.mem_of_getElem? (i := 2) rfl)) (hl _ (List.mem_of_getElem? (i := 3) rfl))
  refine Wp.iload_n 3 3 d_M_rounds_53 rfl rfl ?_
  refine Wp.aload_n 0 0 d_M_rounds_54 rfl rfl ?_
  obtain ⟨e1, P2, hd3, ho4, H5⟩ := H0
  refine Wq.VI (st := [.inl x3]) [] d_M_rounds_55 k_M_lots ml_M_338 rfl rfl rfl (fun h => by cases h) (Nat.le_of_ble_eq_true rfl) hd3 ho4 (fun z7 m8 hp9 hz10 hw11 => ?_)
  have H6 := H5 z7 m8 hp9 hz10 hw11
  obtain ⟨H13, H14⟩ := H6
  refine Wp.icmp_ge 81 d_M_rounds_58 (by decide) (fun c12 => ?_) (fun c12 => ?_)
  · have H15 := H13 c12
    obtain ⟨s17, H18⟩ := H15
    refine Wp.iinc 1 1 [(0, .inr (.inr 70)), (1, .inl (x1 + 1)), (2, .inl x2), (3, .inl x3)] d_M_rounds_81 rfl s17 (by decide) rfl ?_
    refine Wp.goto 6 d_M_rounds_84 (by decide) ?_
    refine Wp.pick [0, 1] [(0, .inr (.inr 70)), (1, .inl (x1 + 1))] rfl ?_
    exact H18
  · have H16 := H14 c12
    refine Wp.iload_n 2 2 d_M_rounds_61 rfl rfl ?_
    refine Wp.iload_n 3 3 d_M_rounds_62 rfl rfl ?_
    obtain ⟨e19, P20, hd21, ho22, H23⟩ := H16
    refine Wq.SI (st := []) [.inl x2, .inl x3] d_M_rounds_63 k_M_bit ml_M_252 rfl  (fun h => by cases h) (Nat.le_of_ble_eq_true rfl) hd21 ho22 (fun z25 m26 hp27 hz28 hw29 => ?_)
    have H24 := H23 z25 m26 hp27 hz28 hw29
    obtain ⟨H31, H32⟩ := H24
    refine Wp.if_eq 75 d_M_rounds_66 (by decide) (fun c30 => ?_) (fun c30 => ?_)
    · have H33 := H31 c30
      obtain ⟨s35, H36⟩ := H33
      refine Wp.iinc 3 3 [(0, .inr (.inr 70)), (1, .inl x1), (2, .inl x2), (3, .inl (x3 + 1))] d_M_rounds_75 rfl s35 (by decide) rfl ?_
      refine Wp.goto 53 d_M_rounds_78 (by decide) ?_
      exact H36
    · have H34 := H32 c30
      refine Wp.aload_n 0 0 d_M_rounds_69 rfl rfl ?_
      refine Wp.iload_n 3 3 d_M_rounds_70 rfl rfl ?_
      refine Wp.iconst d_M_rounds_71 (by decide) ?_
      obtain ⟨e37, P38, hd39, ho40, H41⟩ := H34
      refine Wq.VV (st := []) [.inl x3, .inl 1] d_M_rounds_72 k_M_toppleIn ml_M_375 rfl rfl rfl (fun h => by cases h) (Nat.le_of_ble_eq_true rfl) hd39 ho40 (fun m44 hp45 hw47 => ?_)
      have H42 := H41 m44 hp45 hw47
      obtain ⟨s48, H49⟩ := H42
      refine Wp.iinc 3 3 [(0, .inr (.inr 70)), (1, .inl x1), (2, .inl x2), (3, .inl (x3 + 1))] d_M_rounds_75 rfl s48 (by decide) rfl ?_
      refine Wp.goto 53 d_M_rounds_78 (by decide) ?_
      exact H49
theorem d_M_slide_0 : decode Y_M_slide.2.1 0 = .ok (.aload_n 0, 1) := by decide +kernel
theorem d_M_slide_1 : decode Y_M_slide.2.1 1 = .ok (.iload_n 1, 1) := by decide +kernel
theorem d_M_slide_2 : decode Y_M_slide.2.1 2 = .ok (.invokevirtual 405, 3) := by decide +kernel
theorem d_M_slide_5 : decode Y_M_slide.2.1 5 = .ok (.ifCond .eq 12, 3) := by decide +kernel
theorem d_M_slide_8 : decode Y_M_slide.2.1 8 = .ok (.iload_n 2, 1) := by decide +kernel
theorem d_M_slide_9 : decode Y_M_slide.2.1 9 = .ok (.iconst 0, 1) := by decide +kernel
theorem d_M_slide_10 : decode Y_M_slide.2.1 10 = .ok (.iconst 2, 1) := by decide +kernel
theorem d_M_slide_11 : decode Y_M_slide.2.1 11 = .ok (.invokestatic 341, 3) := by decide +kernel
theorem d_M_slide_14 : decode Y_M_slide.2.1 14 = .ok (.ifCond .ne 5, 3) := by decide +kernel
theorem d_M_slide_17 : decode Y_M_slide.2.1 17 = .ok (.iconst (-1), 1) := by decide +kernel
theorem d_M_slide_18 : decode Y_M_slide.2.1 18 = .ok (.ireturn, 1) := by decide +kernel
theorem d_M_slide_19 : decode Y_M_slide.2.1 19 = .ok (.aload_n 0, 1) := by decide +kernel
theorem d_M_slide_20 : decode Y_M_slide.2.1 20 = .ok (.iload_n 1, 1) := by decide +kernel
theorem d_M_slide_21 : decode Y_M_slide.2.1 21 = .ok (.invokevirtual 436, 3) := by decide +kernel
theorem d_M_slide_24 : decode Y_M_slide.2.1 24 = .ok (.istore_n 3, 1) := by decide +kernel
theorem d_M_slide_25 : decode Y_M_slide.2.1 25 = .ok (.iconst 0, 1) := by decide +kernel
theorem d_M_slide_26 : decode Y_M_slide.2.1 26 = .ok (.istore 4, 2) := by decide +kernel
theorem d_M_slide_28 : decode Y_M_slide.2.1 28 = .ok (.iconst 0, 1) := by decide +kernel
theorem d_M_slide_29 : decode Y_M_slide.2.1 29 = .ok (.istore 5, 2) := by decide +kernel
theorem d_M_slide_31 : decode Y_M_slide.2.1 31 = .ok (.iload 5, 2) := by decide +kernel
theorem d_M_slide_33 : decode Y_M_slide.2.1 33 = .ok (.aload_n 0, 1) := by decide +kernel
theorem d_M_slide_34 : decode Y_M_slide.2.1 34 = .ok (.invokevirtual 338, 3) := by decide +kernel
theorem d_M_slide_37 : decode Y_M_slide.2.1 37 = .ok (.if_icmp .ge 28, 3) := by decide +kernel
theorem d_M_slide_40 : decode Y_M_slide.2.1 40 = .ok (.aload_n 0, 1) := by decide +kernel
theorem d_M_slide_41 : decode Y_M_slide.2.1 41 = .ok (.getfield 85, 3) := by decide +kernel
theorem d_M_slide_44 : decode Y_M_slide.2.1 44 = .ok (.iload 5, 2) := by decide +kernel
theorem d_M_slide_46 : decode Y_M_slide.2.1 46 = .ok (.iaload, 1) := by decide +kernel
theorem d_M_slide_47 : decode Y_M_slide.2.1 47 = .ok (.ifCond .le 12, 3) := by decide +kernel
theorem d_M_slide_50 : decode Y_M_slide.2.1 50 = .ok (.iload 4, 2) := by decide +kernel
theorem d_M_slide_52 : decode Y_M_slide.2.1 52 = .ok (.iconst 1, 1) := by decide +kernel
theorem d_M_slide_53 : decode Y_M_slide.2.1 53 = .ok (.iload 5, 2) := by decide +kernel
theorem d_M_slide_55 : decode Y_M_slide.2.1 55 = .ok (.ishl, 1) := by decide +kernel
theorem d_M_slide_56 : decode Y_M_slide.2.1 56 = .ok (.ior, 1) := by decide +kernel
theorem d_M_slide_57 : decode Y_M_slide.2.1 57 = .ok (.istore 4, 2) := by decide +kernel
theorem d_M_slide_59 : decode Y_M_slide.2.1 59 = .ok (.iinc 5 1, 3) := by decide +kernel
theorem d_M_slide_62 : decode Y_M_slide.2.1 62 = .ok (.goto (-31), 3) := by decide +kernel
theorem d_M_slide_65 : decode Y_M_slide.2.1 65 = .ok (.iload_n 2, 1) := by decide +kernel
theorem d_M_slide_66 : decode Y_M_slide.2.1 66 = .ok (.ifCond .ne 7, 3) := by decide +kernel
theorem d_M_slide_69 : decode Y_M_slide.2.1 69 = .ok (.iload_n 3, 1) := by decide +kernel
theorem d_M_slide_70 : decode Y_M_slide.2.1 70 = .ok (.goto 17, 3) := by decide +kernel
theorem d_M_slide_73 : decode Y_M_slide.2.1 73 = .ok (.iload_n 2, 1) := by decide +kernel
theorem d_M_slide_74 : decode Y_M_slide.2.1 74 = .ok (.iconst 1, 1) := by decide +kernel
theorem d_M_slide_75 : decode Y_M_slide.2.1 75 = .ok (.if_icmp .ne 8, 3) := by decide +kernel
theorem d_M_slide_78 : decode Y_M_slide.2.1 78 = .ok (.iload 4, 2) := by decide +kernel
theorem d_M_slide_80 : decode Y_M_slide.2.1 80 = .ok (.goto 7, 3) := by decide +kernel
theorem d_M_slide_83 : decode Y_M_slide.2.1 83 = .ok (.aload_n 0, 1) := by decide +kernel
theorem d_M_slide_84 : decode Y_M_slide.2.1 84 = .ok (.getfield 372, 3) := by decide +kernel
theorem d_M_slide_87 : decode Y_M_slide.2.1 87 = .ok (.ireturn, 1) := by decide +kernel
theorem e_M_slide {l : Launch} {G : GT} {d : Nat} {P : Int → MM → Prop} {m : MM} (x1 : Int) (x2 : Int)  (H : wfM m → inR x1 → inR x2 → ∃ (e1 : Nat) (P2 : Int → MM → Prop), e1 < d ∧ CI l G Y_M_isPlate e1 [.inr (.inr 70), .inl x1] m P2 ∧ (∀ z7 m8, P2 z7 m8 → inR z7 → wfM m8 → ((z7 = 0 → (P (-1) m8)) ∧ (¬ (z7 = 0) → (∃ (e17 : Nat) (P18 : Int → MM → Prop), e17 < d ∧ CI l G Y_M_isIn e17 [.inl x2, .inl 0, .inl 2] m8 P18 ∧ (∀ z23 m24, P18 z23 m24 → inR z23 → wfM m24 → ((z23 ≠ 0 → (∃ (e33 : Nat) (P34 : Int → MM → Prop), e33 < d ∧ CI l G Y_M_goSlide e33 [.inr (.inr 70), .inl x1] m24 P34 ∧ (∀ z39 m40, P34 z39 m40 → inR z39 → wfM m40 → (Wq l G false Y_M_slide d (QI P) 31 [(0, .inr (.inr 70)), (2, .inl x2), (3, .inl z39), (4, .inl 0), (5, .inl 0)] [] m40)))) ∧ (¬ (z23 ≠ 0) → (P (-1) m24))))))))) : CI l G Y_M_slide d [.inr (.inr 70), .inl x1, .inl x2] m P := by
  refine CI.of [(0, .inr (.inr 70)), (1, .inl x1), (2, .inl x2)] k_M_slide.1 (Nat.le_of_ble_eq_true rfl) rfl (Wp.wf (fun hw _ hl hs => ?_))
  have H0 := H hw (hl _ (List.mem_of_getElem? (i := 1) rfl)) (hl _ (List.mem_of_getElem? (i := 2) rfl))
  refine Wp.aload_n 0 0 d_M_slide_0 rfl rfl ?_
  refine Wp.iload_n 1 1 d_M_slide_1 rfl rfl ?_
  obtain ⟨e1, P2, hd3, ho4, H5⟩ := H0
  refine Wq.VI (st := []) [.inl x1] d_M_slide_2 k_M_isPlate ml_M_405 rfl rfl rfl (fun h => by cases h) (Nat.le_of_ble_eq_true rfl) hd3 ho4 (fun z7 m8 hp9 hz10 hw11 => ?_)
  have H6 := H5 z7 m8 hp9 hz10 hw11
  obtain ⟨H13, H14⟩ := H6
  refine Wp.if_eq 17 d_M_slide_5 (by decide) (fun c12 => ?_) (fun c12 => ?_)
  · have H15 := H13 c12
    refine Wp.iconst d_M_slide_17 (by decide) ?_
    exact Wq.iret d_M_slide_18 rfl H15
  · have H16 := H14 c12
    refine Wp.iload_n 2 2 d_M_slide_8 rfl rfl ?_
    refine Wp.iconst d_M_slide_9 (by decide) ?_
    refine Wp.iconst d_M_slide_10 (by decide) ?_
    obtain ⟨e17, P18, hd19, ho20, H21⟩ := H16
    refine Wq.SI (st := []) [.inl x2, .inl 0, .inl 2] d_M_slide_11 k_M_isIn ml_M_341 rfl  (fun h => by cases h) (Nat.le_of_ble_eq_true rfl) hd19 ho20 (fun z23 m24 hp25 hz26 hw27 => ?_)
    have H22 := H21 z23 m24 hp25 hz26 hw27
    obtain ⟨H29, H30⟩ := H22
    refine Wp.if_ne 19 d_M_slide_14 (by decide) (fun c28 => ?_) (fun c28 => ?_)
    · have H31 := H29 c28
      refine Wp.aload_n 0 0 d_M_slide_19 rfl rfl ?_
      refine Wp.iload_n 1 1 d_M_slide_20 rfl rfl ?_
      obtain ⟨e33, P34, hd35, ho36, H37⟩ := H31
      refine Wq.VI (st := []) [.inl x1] d_M_slide_21 k_M_goSlide ml_M_436 rfl rfl rfl (fun h => by cases h) (Nat.le_of_ble_eq_true rfl) hd35 ho36 (fun z39 m40 hp41 hz42 hw43 => ?_)
      have H38 := H37 z39 m40 hp41 hz42 hw43
      refine Wp.istore_n 3 [(0, .inr (.inr 70)), (1, .inl x1), (2, .inl x2), (3, .inl z39)] d_M_slide_24 rfl (by decide) rfl ?_
      refine Wp.iconst d_M_slide_25 (by decide) ?_
      refine Wp.istore 4 [(0, .inr (.inr 70)), (1, .inl x1), (2, .inl x2), (3, .inl z39), (4, .inl 0)] d_M_slide_26 (by decide) rfl ?_
      refine Wp.iconst d_M_slide_28 (by decide) ?_
      refine Wp.istore 5 [(0, .inr (.inr 70)), (1, .inl x1), (2, .inl x2), (3, .inl z39), (4, .inl 0), (5, .inl 0)] d_M_slide_29 (by decide) rfl ?_
      refine Wp.pick [0, 2, 3, 4, 5] [(0, .inr (.inr 70)), (2, .inl x2), (3, .inl z39), (4, .inl 0), (5, .inl 0)] rfl ?_
      exact H38
    · have H32 := H30 c28
      refine Wp.iconst d_M_slide_17 (by decide) ?_
      exact Wq.iret d_M_slide_18 rfl H32
theorem s_M_slide_31 {l : Launch} {G : GT} {d : Nat} {P : Int → MM → Prop} {m : MM} (x2 : Int) (x3 : Int) (x4 : Int) (x5 : Int)  (H : wfM m → inR x2 → inR x3 → inR x4 → inR x5 → ∃ (e1 : Nat) (P2 : Int → MM → Prop), e1 < d ∧ CI l G Y_M_lots e1 [.inr (.inr 70)] m P2 ∧ (∀ z7 m8, P2 z7 m8 → inR z7 → wfM m8 → ((x5 ≥ z7 → ((x2 ≠ 0 → ((x2 ≠ 1 → (P (m8 70 41) m8)) ∧ (¬ (x2 ≠ 1) → (P x4 m8)))) ∧ (¬ (x2 ≠ 0) → (P x3 m8)))) ∧ (¬ (x5 ≥ z7) → ((0 ≤ x5 ∧ x5 < (5 : Int)) ∧ (((m8 94 x5) ≤ 0 → ((inR (x5 + 1)) ∧ (Wq l G false Y_M_slide d (QI P) 31 [(0, .inr (.inr 70)), (2, .inl x2), (3, .inl x3), (4, .inl x4), (5, .inl (x5 + 1))] [] m8))) ∧ (¬ ((m8 94 x5) ≤ 0) → ((inR (x5 + 1)) ∧ (Wq l G false Y_M_slide d (QI P) 31 [(0, .inr (.inr 70)), (2, .inl x2), (3, .inl x3), (4, .inl (bOr x4 (bShl 1 x5))), (5, .inl (x5 + 1))] [] m8))))))))) : Wq l G false Y_M_slide d (QI P) 31 [(0, .inr (.inr 70)), (2, .inl x2), (3, .inl x3), (4, .inl x4), (5, .inl x5)] [] m := by
  refine Wp.wf (fun hw _ hl hs => ?_)
  have H0 := H hw (hl _ (List.mem_of_getElem? (i := 1) rfl)) (hl _ (List.mem_of_getElem? (i := 2) rfl)) (hl _ (List.mem_of_getElem? (i := 3) rfl)) (hl _ (List.mem_of_getElem? (i := 4) rfl))
  refine Wp.iload 4 5 d_M_slide_31 rfl ?_
  refine Wp.aload_n 0 0 d_M_slide_33 rfl rfl ?_
  obtain ⟨e1, P2, hd3, ho4, H5⟩ := H0
  refine Wq.VI (st := [.inl x5]) [] d_M_slide_34 k_M_lots ml_M_338 rfl rfl rfl (fun h => by cases h) (Nat.le_of_ble_eq_true rfl) hd3 ho4 (fun z7 m8 hp9 hz10 hw11 => ?_)
  have H6 := H5 z7 m8 hp9 hz10 hw11
  obtain ⟨H13, H14⟩ := H6
  refine Wp.icmp_ge 65 d_M_slide_37 (by decide) (fun c12 => ?_) (fun c12 => ?_)
  · have H15 := H13 c12
    refine Wp.iload_n 1 2 d_M_slide_65 rfl rfl ?_
    obtain ⟨H18, H19⟩ := H15
    refine Wp.if_ne 73 d_M_slide_66 (by decide) (fun c17 => ?_) (fun c17 => ?_)
    · have H20 := H18 c17
      refine Wp.iload_n 1 2 d_M_slide_73 rfl rfl ?_
      refine Wp.iconst d_M_slide_74 (by decide) ?_
      obtain ⟨H23, H24⟩ := H20
      refine Wp.icmp_ne 83 d_M_slide_75 (by decide) (fun c22 => ?_) (fun c22 => ?_)
      · have H25 := H23 c22
        refine Wp.aload_n 0 0 d_M_slide_83 rfl rfl ?_
        refine Wq.getI 41 rfl d_M_slide_84 fl_M_372 rfl (Or.inl rfl) ?_
        exact Wq.iret d_M_slide_87 rfl H25
      · have H26 := H24 c22
        refine Wp.iload 3 4 d_M_slide_78 rfl ?_
        refine Wp.goto 87 d_M_slide_80 (by decide) ?_
        exact Wq.iret d_M_slide_87 rfl H26
    · have H21 := H19 c17
      refine Wp.iload_n 2 3 d_M_slide_69 rfl rfl ?_
      refine Wp.goto 87 d_M_slide_70 (by decide) ?_
      exact Wq.iret d_M_slide_87 rfl H21
  · have H16 := H14 c12
    refine Wp.aload_n 0 0 d_M_slide_40 rfl rfl ?_
    refine Wp.getP 94 d_M_slide_41 fl_M_85 rfl rfl rfl ?_
    refine Wp.iload 4 5 d_M_slide_44 rfl ?_
    obtain ⟨s27, H28⟩ := H16
    refine Wp.iald d_M_slide_46 rfl (Or.inl rfl) s27.1 s27.2 ?_
    obtain ⟨H30, H31⟩ := H28
    refine Wp.if_le 59 d_M_slide_47 (by decide) (fun c29 => ?_) (fun c29 => ?_)
    · have H32 := H30 c29
      obtain ⟨s34, H35⟩ := H32
      refine Wp.iinc 4 5 [(0, .inr (.inr 70)), (2, .inl x2), (3, .inl x3), (4, .inl x4), (5, .inl (x5 + 1))] d_M_slide_59 rfl s34 (by decide) rfl ?_
      refine Wp.goto 31 d_M_slide_62 (by decide) ?_
      exact H35
    · have H33 := H31 c29
      refine Wp.iload 3 4 d_M_slide_50 rfl ?_
      refine Wp.iconst d_M_slide_52 (by decide) ?_
      refine Wp.iload 4 5 d_M_slide_53 rfl ?_
      refine Wp.ishl d_M_slide_55 ?_
      refine Wp.ior d_M_slide_56 ?_
      refine Wp.istore 4 [(0, .inr (.inr 70)), (2, .inl x2), (3, .inl x3), (4, .inl (bOr x4 (bShl 1 x5))), (5, .inl x5)] d_M_slide_57 (by decide) rfl ?_
      obtain ⟨s36, H37⟩ := H33
      refine Wp.iinc 4 5 [(0, .inr (.inr 70)), (2, .inl x2), (3, .inl x3), (4, .inl (bOr x4 (bShl 1 x5))), (5, .inl (x5 + 1))] d_M_slide_59 rfl s36 (by decide) rfl ?_
      refine Wp.goto 31 d_M_slide_62 (by decide) ?_
      exact H37
theorem d_M_goSlide_0 : decode Y_M_goSlide.2.1 0 = .ok (.aload_n 0, 1) := by decide +kernel
theorem d_M_goSlide_1 : decode Y_M_goSlide.2.1 1 = .ok (.invokevirtual 411, 3) := by decide +kernel
theorem d_M_goSlide_4 : decode Y_M_goSlide.2.1 4 = .ok (.aload_n 0, 1) := by decide +kernel
theorem d_M_goSlide_5 : decode Y_M_goSlide.2.1 5 = .ok (.getfield 82, 3) := by decide +kernel
theorem d_M_goSlide_8 : decode Y_M_goSlide.2.1 8 = .ok (.iload_n 1, 1) := by decide +kernel
theorem d_M_goSlide_9 : decode Y_M_goSlide.2.1 9 = .ok (.dup2, 1) := by decide +kernel
theorem d_M_goSlide_10 : decode Y_M_goSlide.2.1 10 = .ok (.iaload, 1) := by decide +kernel
theorem d_M_goSlide_11 : decode Y_M_goSlide.2.1 11 = .ok (.iconst 1, 1) := by decide +kernel
theorem d_M_goSlide_12 : decode Y_M_goSlide.2.1 12 = .ok (.iadd, 1) := by decide +kernel
theorem d_M_goSlide_13 : decode Y_M_goSlide.2.1 13 = .ok (.iastore, 1) := by decide +kernel
theorem d_M_goSlide_14 : decode Y_M_goSlide.2.1 14 = .ok (.aload_n 0, 1) := by decide +kernel
theorem d_M_goSlide_15 : decode Y_M_goSlide.2.1 15 = .ok (.invokevirtual 381, 3) := by decide +kernel
theorem d_M_goSlide_18 : decode Y_M_goSlide.2.1 18 = .ok (.ireturn, 1) := by decide +kernel
theorem e_M_goSlide {l : Launch} {G : GT} {d : Nat} {P : Int → MM → Prop} {m : MM} (x1 : Int)  (H : wfM m → inR x1 → ∃ (e1 : Nat) (P2 : MM → Prop), e1 < d ∧ CV l G Y_M_layRest e1 [.inr (.inr 70)] m P2 ∧ (∀ m8, P2 m8 → wfM m8 → ((0 ≤ x1 ∧ x1 < (5 : Int)) ∧ ((inR ((m8 93 x1) + 1)) ∧ ((0 ≤ x1 ∧ x1 < (5 : Int)) ∧ (∀ m16, m16 = up m8 93 x1 ((m8 93 x1) + 1) → (∃ (e21 : Nat) (P22 : Int → MM → Prop), e21 < d ∧ CI l G Y_M_settleHeap e21 [.inr (.inr 70)] m16 P22 ∧ (∀ z27 m28, P22 z27 m28 → inR z27 → wfM m28 → (P z27 m28))))))))) : CI l G Y_M_goSlide d [.inr (.inr 70), .inl x1] m P := by
  refine CI.of [(0, .inr (.inr 70)), (1, .inl x1)] k_M_goSlide.1 (Nat.le_of_ble_eq_true rfl) rfl (Wp.wf (fun hw _ hl hs => ?_))
  have H0 := H hw (hl _ (List.mem_of_getElem? (i := 1) rfl))
  refine Wp.aload_n 0 0 d_M_goSlide_0 rfl rfl ?_
  obtain ⟨e1, P2, hd3, ho4, H5⟩ := H0
  refine Wq.VV (st := []) [] d_M_goSlide_1 k_M_layRest ml_M_411 rfl rfl rfl (fun h => by cases h) (Nat.le_of_ble_eq_true rfl) hd3 ho4 (fun m8 hp9 hw11 => ?_)
  have H6 := H5 m8 hp9 hw11
  refine Wp.aload_n 0 0 d_M_goSlide_4 rfl rfl ?_
  refine Wp.getP 93 d_M_goSlide_5 fl_M_82 rfl rfl rfl ?_
  refine Wp.iload_n 1 1 d_M_goSlide_8 rfl rfl ?_
  refine Wp.dup2 d_M_goSlide_9 rfl rfl ?_
  obtain ⟨s12, H13⟩ := H6
  refine Wp.iald d_M_goSlide_10 rfl (Or.inl rfl) s12.1 s12.2 ?_
  refine Wp.iconst d_M_goSlide_11 (by decide) ?_
  obtain ⟨s14, H15⟩ := H13
  refine Wp.iadd d_M_goSlide_12 s14 ?_
  obtain ⟨s32, H33⟩ := H15
  refine Wq.iast d_M_goSlide_13 rfl s32.1 s32.2 (fun m16 hm17 => ?_)
  have H18 := H33 m16 hm17
  refine Wp.aload_n 0 0 d_M_goSlide_14 rfl rfl ?_
  obtain ⟨e21, P22, hd23, ho24, H25⟩ := H18
  refine Wq.VI (st := []) [] d_M_goSlide_15 k_M_settleHeap ml_M_381 rfl rfl rfl (fun h => by cases h) (Nat.le_of_ble_eq_true rfl) hd23 ho24 (fun z27 m28 hp29 hz30 hw31 => ?_)
  have H26 := H25 z27 m28 hp29 hz30 hw31
  exact Wq.iret d_M_goSlide_18 rfl H26
theorem d_M_steepest_0 : decode Y_M_steepest.2.1 0 = .ok (.iconst (-1), 1) := by decide +kernel
theorem d_M_steepest_1 : decode Y_M_steepest.2.1 1 = .ok (.istore_n 1, 1) := by decide +kernel
theorem d_M_steepest_2 : decode Y_M_steepest.2.1 2 = .ok (.iconst (-1), 1) := by decide +kernel
theorem d_M_steepest_3 : decode Y_M_steepest.2.1 3 = .ok (.istore_n 2, 1) := by decide +kernel
theorem d_M_steepest_4 : decode Y_M_steepest.2.1 4 = .ok (.iconst 0, 1) := by decide +kernel
theorem d_M_steepest_5 : decode Y_M_steepest.2.1 5 = .ok (.istore_n 3, 1) := by decide +kernel
theorem d_M_steepest_6 : decode Y_M_steepest.2.1 6 = .ok (.iload_n 3, 1) := by decide +kernel
theorem d_M_steepest_7 : decode Y_M_steepest.2.1 7 = .ok (.aload_n 0, 1) := by decide +kernel
theorem d_M_steepest_8 : decode Y_M_steepest.2.1 8 = .ok (.invokevirtual 338, 3) := by decide +kernel
theorem d_M_steepest_11 : decode Y_M_steepest.2.1 11 = .ok (.if_icmp .ge 30, 3) := by decide +kernel
theorem d_M_steepest_14 : decode Y_M_steepest.2.1 14 = .ok (.aload_n 0, 1) := by decide +kernel
theorem d_M_steepest_15 : decode Y_M_steepest.2.1 15 = .ok (.iload_n 3, 1) := by decide +kernel
theorem d_M_steepest_16 : decode Y_M_steepest.2.1 16 = .ok (.invokevirtual 436, 3) := by decide +kernel
theorem d_M_steepest_19 : decode Y_M_steepest.2.1 19 = .ok (.istore 4, 2) := by decide +kernel
theorem d_M_steepest_21 : decode Y_M_steepest.2.1 21 = .ok (.iload 4, 2) := by decide +kernel
theorem d_M_steepest_23 : decode Y_M_steepest.2.1 23 = .ok (.iload_n 2, 1) := by decide +kernel
theorem d_M_steepest_24 : decode Y_M_steepest.2.1 24 = .ok (.if_icmp .gt 6, 3) := by decide +kernel
theorem d_M_steepest_27 : decode Y_M_steepest.2.1 27 = .ok (.goto 8, 3) := by decide +kernel
theorem d_M_steepest_30 : decode Y_M_steepest.2.1 30 = .ok (.iload_n 3, 1) := by decide +kernel
theorem d_M_steepest_31 : decode Y_M_steepest.2.1 31 = .ok (.istore_n 1, 1) := by decide +kernel
theorem d_M_steepest_32 : decode Y_M_steepest.2.1 32 = .ok (.iload 4, 2) := by decide +kernel
theorem d_M_steepest_34 : decode Y_M_steepest.2.1 34 = .ok (.istore_n 2, 1) := by decide +kernel
theorem d_M_steepest_35 : decode Y_M_steepest.2.1 35 = .ok (.iinc 3 1, 3) := by decide +kernel
theorem d_M_steepest_38 : decode Y_M_steepest.2.1 38 = .ok (.goto (-32), 3) := by decide +kernel
theorem d_M_steepest_41 : decode Y_M_steepest.2.1 41 = .ok (.iload_n 1, 1) := by decide +kernel
theorem d_M_steepest_42 : decode Y_M_steepest.2.1 42 = .ok (.ireturn, 1) := by decide +kernel
theorem e_M_steepest {l : Launch} {G : GT} {d : Nat} {P : Int → MM → Prop} {m : MM}   (H : wfM m → Wq l G false Y_M_steepest d (QI P) 6 [(0, .inr (.inr 70)), (1, .inl (-1)), (2, .inl (-1)), (3, .inl 0)] [] m) : CI l G Y_M_steepest d [.inr (.inr 70)] m P := by
  refine CI.of [(0, .inr (.inr 70))] k_M_steepest.1 (Nat.le_of_ble_eq_true rfl) rfl (Wp.wf (fun hw _ hl hs => ?_))
  have H0 := H hw
  refine Wp.iconst d_M_steepest_0 (by decide) ?_
  refine Wp.istore_n 1 [(0, .inr (.inr 70)), (1, .inl (-1))] d_M_steepest_1 rfl (by decide) rfl ?_
  refine Wp.iconst d_M_steepest_2 (by decide) ?_
  refine Wp.istore_n 2 [(0, .inr (.inr 70)), (1, .inl (-1)), (2, .inl (-1))] d_M_steepest_3 rfl (by decide) rfl ?_
  refine Wp.iconst d_M_steepest_4 (by decide) ?_
  refine Wp.istore_n 3 [(0, .inr (.inr 70)), (1, .inl (-1)), (2, .inl (-1)), (3, .inl 0)] d_M_steepest_5 rfl (by decide) rfl ?_
  exact H0
theorem s_M_steepest_6 {l : Launch} {G : GT} {d : Nat} {P : Int → MM → Prop} {m : MM} (x1 : Int) (x2 : Int) (x3 : Int)  (H : wfM m → inR x1 → inR x2 → inR x3 → ∃ (e1 : Nat) (P2 : Int → MM → Prop), e1 < d ∧ CI l G Y_M_lots e1 [.inr (.inr 70)] m P2 ∧ (∀ z7 m8, P2 z7 m8 → inR z7 → wfM m8 → ((x3 ≥ z7 → (P x1 m8)) ∧ (¬ (x3 ≥ z7) → (∃ (e17 : Nat) (P18 : Int → MM → Prop), e17 < d ∧ CI l G Y_M_goSlide e17 [.inr (.inr 70), .inl x3] m8 P18 ∧ (∀ z23 m24, P18 z23 m24 → inR z23 → wfM m24 → ((z23 > x2 → ((inR (x3 + 1)) ∧ (Wq l G false Y_M_steepest d (QI P) 6 [(0, .inr (.inr 70)), (1, .inl x3), (2, .inl z23), (3, .inl (x3 + 1))] [] m24))) ∧ (¬ (z23 > x2) → ((inR (x3 + 1)) ∧ (Wq l G false Y_M_steepest d (QI P) 6 [(0, .inr (.inr 70)), (1, .inl x1), (2, .inl x2), (3, .inl (x3 + 1))] [] m24)))))))))) : Wq l G false Y_M_steepest d (QI P) 6 [(0, .inr (.inr 70)), (1, .inl x1), (2, .inl x2), (3, .inl x3)] [] m := by
  refine Wp.wf (fun hw _ hl hs => ?_)
  have H0 := H hw (hl _ (List.mem_of_getElem? (i := 1) rfl)) (hl _ (List.mem_of_getElem? (i := 2) rfl)) (hl _ (List.mem_of_getElem? (i := 3) rfl))
  refine Wp.iload_n 3 3 d_M_steepest_6 rfl rfl ?_
  refine Wp.aload_n 0 0 d_M_steepest_7 rfl rfl ?_
  obtain ⟨e1, P2, hd3, ho4, H5⟩ := H0
  refine Wq.VI (st := [.inl x3]) [] d_M_steepest_8 k_M_lots ml_M_338 rfl rfl rfl (fun h => by cases h) (Nat.le_of_ble_eq_true rfl) hd3 ho4 (fun z7 m8 hp9 hz10 hw11 => ?_)
  have H6 := H5 z7 m8 hp9 hz10 hw11
  obtain ⟨H13, H14⟩ := H6
  refine Wp.icmp_ge 41 d_M_steepest_11 (by decide) (fun c12 => ?_) (fun c12 => ?_)
  · have H15 := H13 c12
    refine Wp.iload_n 1 1 d_M_steepest_41 rfl rfl ?_
    exact Wq.iret d_M_steepest_42 rfl H15
  · have H16 := H14 c12
    refine Wp.aload_n 0 0 d_M_steepest_14 rfl rfl ?_
    refine Wp.iload_n 3 3 d_M_steepest_15 rfl rfl ?_
    obtain ⟨e17, P18, hd19, ho20, H21⟩ := H16
    refine Wq.VI (st := []) [.inl x3] d_M_steepest_16 k_M_goSlide ml_M_436 rfl rfl rfl (fun h => by cases h) (Nat.le_of_ble_eq_true rfl) hd19 ho20 (fun z23 m24 hp25 hz26 hw27 => ?_)
    have H22 := H21 z23 m24 hp25 hz26 hw27
    refine Wp.istore 4 [(0, .inr (.inr 70)), (1, .inl x1), (2, .inl x2), (3, .inl x3), (4, .inl z23)] d_M_steepest_19 (by decide) rfl ?_
    refine Wp.iload 4 4 d_M_steepest_21 rfl ?_
    refine Wp.iload_n 2 2 d_M_steepest_23 rfl rfl ?_
    obtain ⟨H29, H30⟩ := H22
    refine Wp.icmp_gt 30 d_M_steepest_24 (by decide) (fun c28 => ?_) (fun c28 => ?_)
    · have H31 := H29 c28
      refine Wp.iload_n 3 3 d_M_steepest_30 rfl rfl ?_
      refine Wp.istore_n 1 [(0, .inr (.inr 70)), (1, .inl x3), (2, .inl x2), (3, .inl x3), (4, .inl z23)] d_M_steepest_31 rfl (by decide) rfl ?_
      refine Wp.iload 4 4 d_M_steepest_32 rfl ?_
      refine Wp.istore_n 2 [(0, .inr (.inr 70)), (1, .inl x3), (2, .inl z23), (3, .inl x3), (4, .inl z23)] d_M_steepest_34 rfl (by decide) rfl ?_
      obtain ⟨s33, H34⟩ := H31
      refine Wp.iinc 3 3 [(0, .inr (.inr 70)), (1, .inl x3), (2, .inl z23), (3, .inl (x3 + 1)), (4, .inl z23)] d_M_steepest_35 rfl s33 (by decide) rfl ?_
      refine Wp.goto 6 d_M_steepest_38 (by decide) ?_
      refine Wp.pick [0, 1, 2, 3] [(0, .inr (.inr 70)), (1, .inl x3), (2, .inl z23), (3, .inl (x3 + 1))] rfl ?_
      exact H34
    · have H32 := H30 c28
      refine Wp.goto 35 d_M_steepest_27 (by decide) ?_
      obtain ⟨s35, H36⟩ := H32
      refine Wp.iinc 3 3 [(0, .inr (.inr 70)), (1, .inl x1), (2, .inl x2), (3, .inl (x3 + 1)), (4, .inl z23)] d_M_steepest_35 rfl s35 (by decide) rfl ?_
      refine Wp.goto 6 d_M_steepest_38 (by decide) ?_
      refine Wp.pick [0, 1, 2, 3] [(0, .inr (.inr 70)), (1, .inl x1), (2, .inl x2), (3, .inl (x3 + 1))] rfl ?_
      exact H36
theorem d_M_quiet_0 : decode Y_M_quiet.2.1 0 = .ok (.iconst 0, 1) := by decide +kernel
theorem d_M_quiet_1 : decode Y_M_quiet.2.1 1 = .ok (.istore_n 1, 1) := by decide +kernel
theorem d_M_quiet_2 : decode Y_M_quiet.2.1 2 = .ok (.iconst 0, 1) := by decide +kernel
theorem d_M_quiet_3 : decode Y_M_quiet.2.1 3 = .ok (.istore_n 2, 1) := by decide +kernel
theorem d_M_quiet_4 : decode Y_M_quiet.2.1 4 = .ok (.iload_n 2, 1) := by decide +kernel
theorem d_M_quiet_5 : decode Y_M_quiet.2.1 5 = .ok (.aload_n 0, 1) := by decide +kernel
theorem d_M_quiet_6 : decode Y_M_quiet.2.1 6 = .ok (.invokevirtual 338, 3) := by decide +kernel
theorem d_M_quiet_9 : decode Y_M_quiet.2.1 9 = .ok (.if_icmp .ge 23, 3) := by decide +kernel
theorem d_M_quiet_12 : decode Y_M_quiet.2.1 12 = .ok (.aload_n 0, 1) := by decide +kernel
theorem d_M_quiet_13 : decode Y_M_quiet.2.1 13 = .ok (.iload_n 2, 1) := by decide +kernel
theorem d_M_quiet_14 : decode Y_M_quiet.2.1 14 = .ok (.invokevirtual 436, 3) := by decide +kernel
theorem d_M_quiet_17 : decode Y_M_quiet.2.1 17 = .ok (.ifCond .ne 9, 3) := by decide +kernel
theorem d_M_quiet_20 : decode Y_M_quiet.2.1 20 = .ok (.iload_n 1, 1) := by decide +kernel
theorem d_M_quiet_21 : decode Y_M_quiet.2.1 21 = .ok (.iconst 1, 1) := by decide +kernel
theorem d_M_quiet_22 : decode Y_M_quiet.2.1 22 = .ok (.iload_n 2, 1) := by decide +kernel
theorem d_M_quiet_23 : decode Y_M_quiet.2.1 23 = .ok (.ishl, 1) := by decide +kernel
theorem d_M_quiet_24 : decode Y_M_quiet.2.1 24 = .ok (.ior, 1) := by decide +kernel
theorem d_M_quiet_25 : decode Y_M_quiet.2.1 25 = .ok (.istore_n 1, 1) := by decide +kernel
theorem d_M_quiet_26 : decode Y_M_quiet.2.1 26 = .ok (.iinc 2 1, 3) := by decide +kernel
theorem d_M_quiet_29 : decode Y_M_quiet.2.1 29 = .ok (.goto (-25), 3) := by decide +kernel
theorem d_M_quiet_32 : decode Y_M_quiet.2.1 32 = .ok (.iload_n 1, 1) := by decide +kernel
theorem d_M_quiet_33 : decode Y_M_quiet.2.1 33 = .ok (.ireturn, 1) := by decide +kernel
theorem e_M_quiet {l : Launch} {G : GT} {d : Nat} {P : Int → MM → Prop} {m : MM}   (H : wfM m → Wq l G false Y_M_quiet d (QI P) 4 [(0, .inr (.inr 70)), (1, .inl 0), (2, .inl 0)] [] m) : CI l G Y_M_quiet d [.inr (.inr 70)] m P := by
  refine CI.of [(0, .inr (.inr 70))] k_M_quiet.1 (Nat.le_of_ble_eq_true rfl) rfl (Wp.wf (fun hw _ hl hs => ?_))
  have H0 := H hw
  refine Wp.iconst d_M_quiet_0 (by decide) ?_
  refine Wp.istore_n 1 [(0, .inr (.inr 70)), (1, .inl 0)] d_M_quiet_1 rfl (by decide) rfl ?_
  refine Wp.iconst d_M_quiet_2 (by decide) ?_
  refine Wp.istore_n 2 [(0, .inr (.inr 70)), (1, .inl 0), (2, .inl 0)] d_M_quiet_3 rfl (by decide) rfl ?_
  exact H0
theorem s_M_quiet_4 {l : Launch} {G : GT} {d : Nat} {P : Int → MM → Prop} {m : MM} (x1 : Int) (x2 : Int)  (H : wfM m → inR x1 → inR x2 → ∃ (e1 : Nat) (P2 : Int → MM → Prop), e1 < d ∧ CI l G Y_M_lots e1 [.inr (.inr 70)] m P2 ∧ (∀ z7 m8, P2 z7 m8 → inR z7 → wfM m8 → ((x2 ≥ z7 → (P x1 m8)) ∧ (¬ (x2 ≥ z7) → (∃ (e17 : Nat) (P18 : Int → MM → Prop), e17 < d ∧ CI l G Y_M_goSlide e17 [.inr (.inr 70), .inl x2] m8 P18 ∧ (∀ z23 m24, P18 z23 m24 → inR z23 → wfM m24 → ((z23 ≠ 0 → ((inR (x2 + 1)) ∧ (Wq l G false Y_M_quiet d (QI P) 4 [(0, .inr (.inr 70)), (1, .inl x1), (2, .inl (x2 + 1))] [] m24))) ∧ (¬ (z23 ≠ 0) → ((inR (x2 + 1)) ∧ (Wq l G false Y_M_quiet d (QI P) 4 [(0, .inr (.inr 70)), (1, .inl (bOr x1 (bShl 1 x2))), (2, .inl (x2 + 1))] [] m24)))))))))) : Wq l G false Y_M_quiet d (QI P) 4 [(0, .inr (.inr 70)), (1, .inl x1), (2, .inl x2)] [] m := by
  refine Wp.wf (fun hw _ hl hs => ?_)
  have H0 := H hw (hl _ (List.mem_of_getElem? (i := 1) rfl)) (hl _ (List.mem_of_getElem? (i := 2) rfl))
  refine Wp.iload_n 2 2 d_M_quiet_4 rfl rfl ?_
  refine Wp.aload_n 0 0 d_M_quiet_5 rfl rfl ?_
  obtain ⟨e1, P2, hd3, ho4, H5⟩ := H0
  refine Wq.VI (st := [.inl x2]) [] d_M_quiet_6 k_M_lots ml_M_338 rfl rfl rfl (fun h => by cases h) (Nat.le_of_ble_eq_true rfl) hd3 ho4 (fun z7 m8 hp9 hz10 hw11 => ?_)
  have H6 := H5 z7 m8 hp9 hz10 hw11
  obtain ⟨H13, H14⟩ := H6
  refine Wp.icmp_ge 32 d_M_quiet_9 (by decide) (fun c12 => ?_) (fun c12 => ?_)
  · have H15 := H13 c12
    refine Wp.iload_n 1 1 d_M_quiet_32 rfl rfl ?_
    exact Wq.iret d_M_quiet_33 rfl H15
  · have H16 := H14 c12
    refine Wp.aload_n 0 0 d_M_quiet_12 rfl rfl ?_
    refine Wp.iload_n 2 2 d_M_quiet_13 rfl rfl ?_
    obtain ⟨e17, P18, hd19, ho20, H21⟩ := H16
    refine Wq.VI (st := []) [.inl x2] d_M_quiet_14 k_M_goSlide ml_M_436 rfl rfl rfl (fun h => by cases h) (Nat.le_of_ble_eq_true rfl) hd19 ho20 (fun z23 m24 hp25 hz26 hw27 => ?_)
    have H22 := H21 z23 m24 hp25 hz26 hw27
    obtain ⟨H29, H30⟩ := H22
    refine Wp.if_ne 26 d_M_quiet_17 (by decide) (fun c28 => ?_) (fun c28 => ?_)
    · have H31 := H29 c28
      obtain ⟨s33, H34⟩ := H31
      refine Wp.iinc 2 2 [(0, .inr (.inr 70)), (1, .inl x1), (2, .inl (x2 + 1))] d_M_quiet_26 rfl s33 (by decide) rfl ?_
      refine Wp.goto 4 d_M_quiet_29 (by decide) ?_
      exact H34
    · have H32 := H30 c28
      refine Wp.iload_n 1 1 d_M_quiet_20 rfl rfl ?_
      refine Wp.iconst d_M_quiet_21 (by decide) ?_
      refine Wp.iload_n 2 2 d_M_quiet_22 rfl rfl ?_
      refine Wp.ishl d_M_quiet_23 ?_
      refine Wp.ior d_M_quiet_24 ?_
      refine Wp.istore_n 1 [(0, .inr (.inr 70)), (1, .inl (bOr x1 (bShl 1 x2))), (2, .inl x2)] d_M_quiet_25 rfl (by decide) rfl ?_
      obtain ⟨s35, H36⟩ := H32
      refine Wp.iinc 2 2 [(0, .inr (.inr 70)), (1, .inl (bOr x1 (bShl 1 x2))), (2, .inl (x2 + 1))] d_M_quiet_26 rfl s35 (by decide) rfl ?_
      refine Wp.goto 4 d_M_quiet_29 (by decide) ?_
      exact H36
theorem d_M_law_0 : decode Y_M_law.2.1 0 = .ok (.iload_n 1, 1) := by decide +kernel
theorem d_M_law_1 : decode Y_M_law.2.1 1 = .ok (.iconst 0, 1) := by decide +kernel
theorem d_M_law_2 : decode Y_M_law.2.1 2 = .ok (.bipush 20, 2) := by decide +kernel
theorem d_M_law_4 : decode Y_M_law.2.1 4 = .ok (.invokestatic 341, 3) := by decide +kernel
theorem d_M_law_7 : decode Y_M_law.2.1 7 = .ok (.ifCond .ne 5, 3) := by decide +kernel
theorem d_M_law_10 : decode Y_M_law.2.1 10 = .ok (.iconst (-1), 1) := by decide +kernel
theorem d_M_law_11 : decode Y_M_law.2.1 11 = .ok (.ireturn, 1) := by decide +kernel
theorem d_M_law_12 : decode Y_M_law.2.1 12 = .ok (.aload_n 0, 1) := by decide +kernel
theorem d_M_law_13 : decode Y_M_law.2.1 13 = .ok (.invokevirtual 378, 3) := by decide +kernel
theorem d_M_law_16 : decode Y_M_law.2.1 16 = .ok (.iconst 0, 1) := by decide +kernel
theorem d_M_law_17 : decode Y_M_law.2.1 17 = .ok (.istore_n 2, 1) := by decide +kernel
theorem d_M_law_18 : decode Y_M_law.2.1 18 = .ok (.iload_n 2, 1) := by decide +kernel
theorem d_M_law_19 : decode Y_M_law.2.1 19 = .ok (.aload_n 0, 1) := by decide +kernel
theorem d_M_law_20 : decode Y_M_law.2.1 20 = .ok (.invokevirtual 338, 3) := by decide +kernel
theorem d_M_law_23 : decode Y_M_law.2.1 23 = .ok (.if_icmp .ge 19, 3) := by decide +kernel
theorem d_M_law_26 : decode Y_M_law.2.1 26 = .ok (.aload_n 0, 1) := by decide +kernel
theorem d_M_law_27 : decode Y_M_law.2.1 27 = .ok (.getfield 82, 3) := by decide +kernel
theorem d_M_law_30 : decode Y_M_law.2.1 30 = .ok (.iload_n 2, 1) := by decide +kernel
theorem d_M_law_31 : decode Y_M_law.2.1 31 = .ok (.dup2, 1) := by decide +kernel
theorem d_M_law_32 : decode Y_M_law.2.1 32 = .ok (.iaload, 1) := by decide +kernel
theorem d_M_law_33 : decode Y_M_law.2.1 33 = .ok (.iload_n 1, 1) := by decide +kernel
theorem d_M_law_34 : decode Y_M_law.2.1 34 = .ok (.iadd, 1) := by decide +kernel
theorem d_M_law_35 : decode Y_M_law.2.1 35 = .ok (.iastore, 1) := by decide +kernel
theorem d_M_law_36 : decode Y_M_law.2.1 36 = .ok (.iinc 2 1, 3) := by decide +kernel
theorem d_M_law_39 : decode Y_M_law.2.1 39 = .ok (.goto (-21), 3) := by decide +kernel
theorem d_M_law_42 : decode Y_M_law.2.1 42 = .ok (.aload_n 0, 1) := by decide +kernel
theorem d_M_law_43 : decode Y_M_law.2.1 43 = .ok (.invokevirtual 381, 3) := by decide +kernel
theorem d_M_law_46 : decode Y_M_law.2.1 46 = .ok (.istore_n 2, 1) := by decide +kernel
theorem d_M_law_47 : decode Y_M_law.2.1 47 = .ok (.aload_n 0, 1) := by decide +kernel
theorem d_M_law_48 : decode Y_M_law.2.1 48 = .ok (.getfield 372, 3) := by decide +kernel
theorem d_M_law_51 : decode Y_M_law.2.1 51 = .ok (.ireturn, 1) := by decide +kernel
theorem e_M_law {l : Launch} {G : GT} {d : Nat} {P : Int → MM → Prop} {m : MM} (x1 : Int)  (H : wfM m → inR x1 → ∃ (e1 : Nat) (P2 : Int → MM → Prop), e1 < d ∧ CI l G Y_M_isIn e1 [.inl x1, .inl 0, .inl 20] m P2 ∧ (∀ z7 m8, P2 z7 m8 → inR z7 → wfM m8 → ((z7 ≠ 0 → (∃ (e17 : Nat) (P18 : MM → Prop), e17 < d ∧ CV l G Y_M_layNow e17 [.inr (.inr 70)] m8 P18 ∧ (∀ m24, P18 m24 → wfM m24 → (Wq l G false Y_M_law d (QI P) 18 [(0, .inr (.inr 70)), (1, .inl x1), (2, .inl 0)] [] m24)))) ∧ (¬ (z7 ≠ 0) → (P (-1) m8))))) : CI l G Y_M_law d [.inr (.inr 70), .inl x1] m P := by
  refine CI.of [(0, .inr (.inr 70)), (1, .inl x1)] k_M_law.1 (Nat.le_of_ble_eq_true rfl) rfl (Wp.wf (fun hw _ hl hs => ?_))
  have H0 := H hw (hl _ (List.mem_of_getElem? (i := 1) rfl))
  refine Wp.iload_n 1 1 d_M_law_0 rfl rfl ?_
  refine Wp.iconst d_M_law_1 (by decide) ?_
  refine Wp.bipush d_M_law_2 (by decide) (by decide) ?_
  obtain ⟨e1, P2, hd3, ho4, H5⟩ := H0
  refine Wq.SI (st := []) [.inl x1, .inl 0, .inl 20] d_M_law_4 k_M_isIn ml_M_341 rfl  (fun h => by cases h) (Nat.le_of_ble_eq_true rfl) hd3 ho4 (fun z7 m8 hp9 hz10 hw11 => ?_)
  have H6 := H5 z7 m8 hp9 hz10 hw11
  obtain ⟨H13, H14⟩ := H6
  refine Wp.if_ne 12 d_M_law_7 (by decide) (fun c12 => ?_) (fun c12 => ?_)
  · have H15 := H13 c12
    refine Wp.aload_n 0 0 d_M_law_12 rfl rfl ?_
    obtain ⟨e17, P18, hd19, ho20, H21⟩ := H15
    refine Wq.VV (st := []) [] d_M_law_13 k_M_layNow ml_M_378 rfl rfl rfl (fun h => by cases h) (Nat.le_of_ble_eq_true rfl) hd19 ho20 (fun m24 hp25 hw27 => ?_)
    have H22 := H21 m24 hp25 hw27
    refine Wp.iconst d_M_law_16 (by decide) ?_
    refine Wp.istore_n 2 [(0, .inr (.inr 70)), (1, .inl x1), (2, .inl 0)] d_M_law_17 rfl (by decide) rfl ?_
    exact H22
  · have H16 := H14 c12
    refine Wp.iconst d_M_law_10 (by decide) ?_
    exact Wq.iret d_M_law_11 rfl H16
theorem s_M_law_18 {l : Launch} {G : GT} {d : Nat} {P : Int → MM → Prop} {m : MM} (x1 : Int) (x2 : Int)  (H : wfM m → inR x1 → inR x2 → ∃ (e1 : Nat) (P2 : Int → MM → Prop), e1 < d ∧ CI l G Y_M_lots e1 [.inr (.inr 70)] m P2 ∧ (∀ z7 m8, P2 z7 m8 → inR z7 → wfM m8 → ((x2 ≥ z7 → (∃ (e17 : Nat) (P18 : Int → MM → Prop), e17 < d ∧ CI l G Y_M_settleHeap e17 [.inr (.inr 70)] m8 P18 ∧ (∀ z23 m24, P18 z23 m24 → inR z23 → wfM m24 → (P (m24 70 41) m24)))) ∧ (¬ (x2 ≥ z7) → ((0 ≤ x2 ∧ x2 < (5 : Int)) ∧ ((inR ((m8 93 x2) + x1)) ∧ ((0 ≤ x2 ∧ x2 < (5 : Int)) ∧ (∀ m32, m32 = up m8 93 x2 ((m8 93 x2) + x1) → ((inR (x2 + 1)) ∧ (Wq l G false Y_M_law d (QI P) 18 [(0, .inr (.inr 70)), (1, .inl x1), (2, .inl (x2 + 1))] [] m32)))))))))) : Wq l G false Y_M_law d (QI P) 18 [(0, .inr (.inr 70)), (1, .inl x1), (2, .inl x2)] [] m := by
  refine Wp.wf (fun hw _ hl hs => ?_)
  have H0 := H hw (hl _ (List.mem_of_getElem? (i := 1) rfl)) (hl _ (List.mem_of_getElem? (i := 2) rfl))
  refine Wp.iload_n 2 2 d_M_law_18 rfl rfl ?_
  refine Wp.aload_n 0 0 d_M_law_19 rfl rfl ?_
  obtain ⟨e1, P2, hd3, ho4, H5⟩ := H0
  refine Wq.VI (st := [.inl x2]) [] d_M_law_20 k_M_lots ml_M_338 rfl rfl rfl (fun h => by cases h) (Nat.le_of_ble_eq_true rfl) hd3 ho4 (fun z7 m8 hp9 hz10 hw11 => ?_)
  have H6 := H5 z7 m8 hp9 hz10 hw11
  obtain ⟨H13, H14⟩ := H6
  refine Wp.icmp_ge 42 d_M_law_23 (by decide) (fun c12 => ?_) (fun c12 => ?_)
  · have H15 := H13 c12
    refine Wp.aload_n 0 0 d_M_law_42 rfl rfl ?_
    obtain ⟨e17, P18, hd19, ho20, H21⟩ := H15
    refine Wq.VI (st := []) [] d_M_law_43 k_M_settleHeap ml_M_381 rfl rfl rfl (fun h => by cases h) (Nat.le_of_ble_eq_true rfl) hd19 ho20 (fun z23 m24 hp25 hz26 hw27 => ?_)
    have H22 := H21 z23 m24 hp25 hz26 hw27
    refine Wp.istore_n 2 [(0, .inr (.inr 70)), (1, .inl x1), (2, .inl z23)] d_M_law_46 rfl (by decide) rfl ?_
    refine Wp.aload_n 0 0 d_M_law_47 rfl rfl ?_
    refine Wq.getI 41 rfl d_M_law_48 fl_M_372 rfl (Or.inl rfl) ?_
    exact Wq.iret d_M_law_51 rfl H22
  · have H16 := H14 c12
    refine Wp.aload_n 0 0 d_M_law_26 rfl rfl ?_
    refine Wp.getP 93 d_M_law_27 fl_M_82 rfl rfl rfl ?_
    refine Wp.iload_n 2 2 d_M_law_30 rfl rfl ?_
    refine Wp.dup2 d_M_law_31 rfl rfl ?_
    obtain ⟨s28, H29⟩ := H16
    refine Wp.iald d_M_law_32 rfl (Or.inl rfl) s28.1 s28.2 ?_
    refine Wp.iload_n 1 1 d_M_law_33 rfl rfl ?_
    obtain ⟨s30, H31⟩ := H29
    refine Wp.iadd d_M_law_34 s30 ?_
    obtain ⟨s39, H40⟩ := H31
    refine Wq.iast d_M_law_35 rfl s39.1 s39.2 (fun m32 hm33 => ?_)
    have H34 := H40 m32 hm33
    obtain ⟨s37, H38⟩ := H34
    refine Wp.iinc 2 2 [(0, .inr (.inr 70)), (1, .inl x1), (2, .inl (x2 + 1))] d_M_law_36 rfl s37 (by decide) rfl ?_
    refine Wp.goto 18 d_M_law_39 (by decide) ?_
    exact H38
theorem d_M_fire_0 : decode Y_M_fire.2.1 0 = .ok (.aload_n 0, 1) := by decide +kernel
theorem d_M_fire_1 : decode Y_M_fire.2.1 1 = .ok (.iconst 0, 1) := by decide +kernel
theorem d_M_fire_2 : decode Y_M_fire.2.1 2 = .ok (.putfield 369, 3) := by decide +kernel
theorem d_M_fire_5 : decode Y_M_fire.2.1 5 = .ok (.aload_n 0, 1) := by decide +kernel
theorem d_M_fire_6 : decode Y_M_fire.2.1 6 = .ok (.invokevirtual 411, 3) := by decide +kernel
theorem d_M_fire_9 : decode Y_M_fire.2.1 9 = .ok (.aload_n 0, 1) := by decide +kernel
theorem d_M_fire_10 : decode Y_M_fire.2.1 10 = .ok (.iconst 0, 1) := by decide +kernel
theorem d_M_fire_11 : decode Y_M_fire.2.1 11 = .ok (.putfield 387, 3) := by decide +kernel
theorem d_M_fire_14 : decode Y_M_fire.2.1 14 = .ok (.aload_n 0, 1) := by decide +kernel
theorem d_M_fire_15 : decode Y_M_fire.2.1 15 = .ok (.invokevirtual 390, 3) := by decide +kernel
theorem d_M_fire_18 : decode Y_M_fire.2.1 18 = .ok (.istore_n 1, 1) := by decide +kernel
theorem d_M_fire_19 : decode Y_M_fire.2.1 19 = .ok (.iload_n 1, 1) := by decide +kernel
theorem d_M_fire_20 : decode Y_M_fire.2.1 20 = .ok (.ifCond .lt 43, 3) := by decide +kernel
theorem d_M_fire_23 : decode Y_M_fire.2.1 23 = .ok (.aload_n 0, 1) := by decide +kernel
theorem d_M_fire_24 : decode Y_M_fire.2.1 24 = .ok (.getfield 94, 3) := by decide +kernel
theorem d_M_fire_27 : decode Y_M_fire.2.1 27 = .ok (.aload_n 0, 1) := by decide +kernel
theorem d_M_fire_28 : decode Y_M_fire.2.1 28 = .ok (.getfield 369, 3) := by decide +kernel
theorem d_M_fire_31 : decode Y_M_fire.2.1 31 = .ok (.iload_n 1, 1) := by decide +kernel
theorem d_M_fire_32 : decode Y_M_fire.2.1 32 = .ok (.iastore, 1) := by decide +kernel
theorem d_M_fire_33 : decode Y_M_fire.2.1 33 = .ok (.aload_n 0, 1) := by decide +kernel
theorem d_M_fire_34 : decode Y_M_fire.2.1 34 = .ok (.dup, 1) := by decide +kernel
theorem d_M_fire_35 : decode Y_M_fire.2.1 35 = .ok (.getfield 369, 3) := by decide +kernel
theorem d_M_fire_38 : decode Y_M_fire.2.1 38 = .ok (.iconst 1, 1) := by decide +kernel
theorem d_M_fire_39 : decode Y_M_fire.2.1 39 = .ok (.iadd, 1) := by decide +kernel
theorem d_M_fire_40 : decode Y_M_fire.2.1 40 = .ok (.putfield 369, 3) := by decide +kernel
theorem d_M_fire_43 : decode Y_M_fire.2.1 43 = .ok (.aload_n 0, 1) := by decide +kernel
theorem d_M_fire_44 : decode Y_M_fire.2.1 44 = .ok (.dup, 1) := by decide +kernel
theorem d_M_fire_45 : decode Y_M_fire.2.1 45 = .ok (.getfield 387, 3) := by decide +kernel
theorem d_M_fire_48 : decode Y_M_fire.2.1 48 = .ok (.iconst 1, 1) := by decide +kernel
theorem d_M_fire_49 : decode Y_M_fire.2.1 49 = .ok (.iload_n 1, 1) := by decide +kernel
theorem d_M_fire_50 : decode Y_M_fire.2.1 50 = .ok (.ishl, 1) := by decide +kernel
theorem d_M_fire_51 : decode Y_M_fire.2.1 51 = .ok (.ior, 1) := by decide +kernel
theorem d_M_fire_52 : decode Y_M_fire.2.1 52 = .ok (.putfield 387, 3) := by decide +kernel
theorem d_M_fire_55 : decode Y_M_fire.2.1 55 = .ok (.aload_n 0, 1) := by decide +kernel
theorem d_M_fire_56 : decode Y_M_fire.2.1 56 = .ok (.invokevirtual 390, 3) := by decide +kernel
theorem d_M_fire_59 : decode Y_M_fire.2.1 59 = .ok (.istore_n 1, 1) := by decide +kernel
theorem d_M_fire_60 : decode Y_M_fire.2.1 60 = .ok (.goto (-41), 3) := by decide +kernel
theorem d_M_fire_63 : decode Y_M_fire.2.1 63 = .ok (.aload_n 0, 1) := by decide +kernel
theorem d_M_fire_64 : decode Y_M_fire.2.1 64 = .ok (.getfield 369, 3) := by decide +kernel
theorem d_M_fire_67 : decode Y_M_fire.2.1 67 = .ok (.ireturn, 1) := by decide +kernel
theorem e_M_fire {l : Launch} {G : GT} {d : Nat} {P : Int → MM → Prop} {m : MM}   (H : wfM m → ∀ m1, m1 = up m 70 48 0 → (∃ (e4 : Nat) (P5 : MM → Prop), e4 < d ∧ CV l G Y_M_layRest e4 [.inr (.inr 70)] m1 P5 ∧ (∀ m11, P5 m11 → wfM m11 → (∀ m15, m15 = up m11 70 43 0 → (∃ (e18 : Nat) (P19 : Int → MM → Prop), e18 < d ∧ CI l G Y_M_nextBurnt e18 [.inr (.inr 70)] m15 P19 ∧ (∀ z24 m25, P19 z24 m25 → inR z24 → wfM m25 → (Wq l G false Y_M_fire d (QI P) 19 [(0, .inr (.inr 70)), (1, .inl z24)] [] m25))))))) : CI l G Y_M_fire d [.inr (.inr 70)] m P := by
  refine CI.of [(0, .inr (.inr 70))] k_M_fire.1 (Nat.le_of_ble_eq_true rfl) rfl (Wp.wf (fun hw _ hl hs => ?_))
  have H0 := H hw
  refine Wp.aload_n 0 0 d_M_fire_0 rfl rfl ?_
  refine Wp.iconst d_M_fire_1 (by decide) ?_
  refine Wq.putI 48 rfl d_M_fire_2 fl_M_369 (fun _ _ _ h => by cases h; rfl) rfl rfl rfl (fun m1 hm2 => ?_)
  have H3 := H0 m1 hm2
  refine Wp.aload_n 0 0 d_M_fire_5 rfl rfl ?_
  obtain ⟨e4, P5, hd6, ho7, H8⟩ := H3
  refine Wq.VV (st := []) [] d_M_fire_6 k_M_layRest ml_M_411 rfl rfl rfl (fun h => by cases h) (Nat.le_of_ble_eq_true rfl) hd6 ho7 (fun m11 hp12 hw14 => ?_)
  have H9 := H8 m11 hp12 hw14
  refine Wp.aload_n 0 0 d_M_fire_9 rfl rfl ?_
  refine Wp.iconst d_M_fire_10 (by decide) ?_
  refine Wq.putI 43 rfl d_M_fire_11 fl_M_387 (fun _ _ _ h => by cases h; rfl) rfl rfl rfl (fun m15 hm16 => ?_)
  have H17 := H9 m15 hm16
  refine Wp.aload_n 0 0 d_M_fire_14 rfl rfl ?_
  obtain ⟨e18, P19, hd20, ho21, H22⟩ := H17
  refine Wq.VI (st := []) [] d_M_fire_15 k_M_nextBurnt ml_M_390 rfl rfl rfl (fun h => by cases h) (Nat.le_of_ble_eq_true rfl) hd20 ho21 (fun z24 m25 hp26 hz27 hw28 => ?_)
  have H23 := H22 z24 m25 hp26 hz27 hw28
  refine Wp.istore_n 1 [(0, .inr (.inr 70)), (1, .inl z24)] d_M_fire_18 rfl (by decide) rfl ?_
  exact H23
theorem s_M_fire_19 {l : Launch} {G : GT} {d : Nat} {P : Int → MM → Prop} {m : MM} (x1 : Int)  (H : wfM m → inR x1 → (x1 < 0 → (P (m 70 48) m)) ∧ (¬ (x1 < 0) → ((0 ≤ (m 70 48) ∧ (m 70 48) < (60 : Int)) ∧ (∀ m6, m6 = up m 97 (m 70 48) x1 → ((inR ((m6 70 48) + 1)) ∧ (∀ m13, m13 = up m6 70 48 ((m6 70 48) + 1) → (∀ m16, m16 = up m13 70 43 (bOr (m13 70 43) (bShl 1 x1)) → (∃ (e19 : Nat) (P20 : Int → MM → Prop), e19 < d ∧ CI l G Y_M_nextBurnt e19 [.inr (.inr 70)] m16 P20 ∧ (∀ z25 m26, P20 z25 m26 → inR z25 → wfM m26 → (Wq l G false Y_M_fire d (QI P) 19 [(0, .inr (.inr 70)), (1, .inl z25)] [] m26)))))))))) : Wq l G false Y_M_fire d (QI P) 19 [(0, .inr (.inr 70)), (1, .inl x1)] [] m := by
  refine Wp.wf (fun hw _ hl hs => ?_)
  have H0 := H hw (hl _ (List.mem_of_getElem? (i := 1) rfl))
  refine Wp.iload_n 1 1 d_M_fire_19 rfl rfl ?_
  obtain ⟨H2, H3⟩ := H0
  refine Wp.if_lt 63 d_M_fire_20 (by decide) (fun c1 => ?_) (fun c1 => ?_)
  · have H4 := H2 c1
    refine Wp.aload_n 0 0 d_M_fire_63 rfl rfl ?_
    refine Wq.getI 48 rfl d_M_fire_64 fl_M_369 rfl (Or.inl rfl) ?_
    exact Wq.iret d_M_fire_67 rfl H4
  · have H5 := H3 c1
    refine Wp.aload_n 0 0 d_M_fire_23 rfl rfl ?_
    refine Wp.getP 97 d_M_fire_24 fl_M_94 rfl rfl rfl ?_
    refine Wp.aload_n 0 0 d_M_fire_27 rfl rfl ?_
    refine Wq.getI 48 rfl d_M_fire_28 fl_M_369 rfl (Or.inl rfl) ?_
    refine Wp.iload_n 1 1 d_M_fire_31 rfl rfl ?_
    obtain ⟨s30, H31⟩ := H5
    refine Wq.iast d_M_fire_32 rfl s30.1 s30.2 (fun m6 hm7 => ?_)
    have H8 := H31 m6 hm7
    refine Wp.aload_n 0 0 d_M_fire_33 rfl rfl ?_
    refine Wp.dup d_M_fire_34 rfl ?_
    refine Wq.getI 48 rfl d_M_fire_35 fl_M_369 rfl (Or.inl rfl) ?_
    refine Wp.iconst d_M_fire_38 (by decide) ?_
    obtain ⟨s11, H12⟩ := H8
    refine Wp.iadd d_M_fire_39 s11 ?_
    refine Wq.putI 48 rfl d_M_fire_40 fl_M_369 (fun _ _ _ h => by cases h; rfl) rfl rfl rfl (fun m13 hm14 => ?_)
    have H15 := H12 m13 hm14
    refine Wp.aload_n 0 0 d_M_fire_43 rfl rfl ?_
    refine Wp.dup d_M_fire_44 rfl ?_
    refine Wq.getI 43 rfl d_M_fire_45 fl_M_387 rfl (Or.inl rfl) ?_
    refine Wp.iconst d_M_fire_48 (by decide) ?_
    refine Wp.iload_n 1 1 d_M_fire_49 rfl rfl ?_
    refine Wp.ishl d_M_fire_50 ?_
    refine Wp.ior d_M_fire_51 ?_
    refine Wq.putI 43 rfl d_M_fire_52 fl_M_387 (fun _ _ _ h => by cases h; rfl) rfl rfl rfl (fun m16 hm17 => ?_)
    have H18 := H15 m16 hm17
    refine Wp.aload_n 0 0 d_M_fire_55 rfl rfl ?_
    obtain ⟨e19, P20, hd21, ho22, H23⟩ := H18
    refine Wq.VI (st := []) [] d_M_fire_56 k_M_nextBurnt ml_M_390 rfl rfl rfl (fun h => by cases h) (Nat.le_of_ble_eq_true rfl) hd21 ho22 (fun z25 m26 hp27 hz28 hw29 => ?_)
    have H24 := H23 z25 m26 hp27 hz28 hw29
    refine Wp.istore_n 1 [(0, .inr (.inr 70)), (1, .inl z25)] d_M_fire_59 rfl (by decide) rfl ?_
    refine Wp.goto 19 d_M_fire_60 (by decide) ?_
    exact H24
theorem d_M_nextBurnt_0 : decode Y_M_nextBurnt.2.1 0 = .ok (.iconst 0, 1) := by decide +kernel
theorem d_M_nextBurnt_1 : decode Y_M_nextBurnt.2.1 1 = .ok (.istore_n 1, 1) := by decide +kernel
theorem d_M_nextBurnt_2 : decode Y_M_nextBurnt.2.1 2 = .ok (.iload_n 1, 1) := by decide +kernel
theorem d_M_nextBurnt_3 : decode Y_M_nextBurnt.2.1 3 = .ok (.aload_n 0, 1) := by decide +kernel
theorem d_M_nextBurnt_4 : decode Y_M_nextBurnt.2.1 4 = .ok (.invokevirtual 338, 3) := by decide +kernel
theorem d_M_nextBurnt_7 : decode Y_M_nextBurnt.2.1 7 = .ok (.if_icmp .ge 84, 3) := by decide +kernel
theorem d_M_nextBurnt_10 : decode Y_M_nextBurnt.2.1 10 = .ok (.aload_n 0, 1) := by decide +kernel
theorem d_M_nextBurnt_11 : decode Y_M_nextBurnt.2.1 11 = .ok (.iload_n 1, 1) := by decide +kernel
theorem d_M_nextBurnt_12 : decode Y_M_nextBurnt.2.1 12 = .ok (.invokevirtual 345, 3) := by decide +kernel
theorem d_M_nextBurnt_15 : decode Y_M_nextBurnt.2.1 15 = .ok (.istore_n 2, 1) := by decide +kernel
theorem d_M_nextBurnt_16 : decode Y_M_nextBurnt.2.1 16 = .ok (.iconst 0, 1) := by decide +kernel
theorem d_M_nextBurnt_17 : decode Y_M_nextBurnt.2.1 17 = .ok (.istore_n 3, 1) := by decide +kernel
theorem d_M_nextBurnt_18 : decode Y_M_nextBurnt.2.1 18 = .ok (.iload_n 3, 1) := by decide +kernel
theorem d_M_nextBurnt_19 : decode Y_M_nextBurnt.2.1 19 = .ok (.aload_n 0, 1) := by decide +kernel
theorem d_M_nextBurnt_20 : decode Y_M_nextBurnt.2.1 20 = .ok (.invokevirtual 338, 3) := by decide +kernel
theorem d_M_nextBurnt_23 : decode Y_M_nextBurnt.2.1 23 = .ok (.if_icmp .ge 33, 3) := by decide +kernel
theorem d_M_nextBurnt_26 : decode Y_M_nextBurnt.2.1 26 = .ok (.iload_n 2, 1) := by decide +kernel
theorem d_M_nextBurnt_27 : decode Y_M_nextBurnt.2.1 27 = .ok (.aload_n 0, 1) := by decide +kernel
theorem d_M_nextBurnt_28 : decode Y_M_nextBurnt.2.1 28 = .ok (.getfield 387, 3) := by decide +kernel
theorem d_M_nextBurnt_31 : decode Y_M_nextBurnt.2.1 31 = .ok (.iload_n 3, 1) := by decide +kernel
theorem d_M_nextBurnt_32 : decode Y_M_nextBurnt.2.1 32 = .ok (.invokestatic 252, 3) := by decide +kernel
theorem d_M_nextBurnt_35 : decode Y_M_nextBurnt.2.1 35 = .ok (.ifCond .eq 12, 3) := by decide +kernel
theorem d_M_nextBurnt_38 : decode Y_M_nextBurnt.2.1 38 = .ok (.aload_n 0, 1) := by decide +kernel
theorem d_M_nextBurnt_39 : decode Y_M_nextBurnt.2.1 39 = .ok (.iload_n 1, 1) := by decide +kernel
theorem d_M_nextBurnt_40 : decode Y_M_nextBurnt.2.1 40 = .ok (.iload_n 3, 1) := by decide +kernel
theorem d_M_nextBurnt_41 : decode Y_M_nextBurnt.2.1 41 = .ok (.invokevirtual 348, 3) := by decide +kernel
theorem d_M_nextBurnt_44 : decode Y_M_nextBurnt.2.1 44 = .ok (.goto 4, 3) := by decide +kernel
theorem d_M_nextBurnt_47 : decode Y_M_nextBurnt.2.1 47 = .ok (.iconst 0, 1) := by decide +kernel
theorem d_M_nextBurnt_48 : decode Y_M_nextBurnt.2.1 48 = .ok (.iadd, 1) := by decide +kernel
theorem d_M_nextBurnt_49 : decode Y_M_nextBurnt.2.1 49 = .ok (.istore_n 2, 1) := by decide +kernel
theorem d_M_nextBurnt_50 : decode Y_M_nextBurnt.2.1 50 = .ok (.iinc 3 1, 3) := by decide +kernel
theorem d_M_nextBurnt_53 : decode Y_M_nextBurnt.2.1 53 = .ok (.goto (-35), 3) := by decide +kernel
theorem d_M_nextBurnt_56 : decode Y_M_nextBurnt.2.1 56 = .ok (.aload_n 0, 1) := by decide +kernel
theorem d_M_nextBurnt_57 : decode Y_M_nextBurnt.2.1 57 = .ok (.getfield 387, 3) := by decide +kernel
theorem d_M_nextBurnt_60 : decode Y_M_nextBurnt.2.1 60 = .ok (.iload_n 1, 1) := by decide +kernel
theorem d_M_nextBurnt_61 : decode Y_M_nextBurnt.2.1 61 = .ok (.invokestatic 252, 3) := by decide +kernel
theorem d_M_nextBurnt_64 : decode Y_M_nextBurnt.2.1 64 = .ok (.ifCond .ne 21, 3) := by decide +kernel
theorem d_M_nextBurnt_67 : decode Y_M_nextBurnt.2.1 67 = .ok (.aload_n 0, 1) := by decide +kernel
theorem d_M_nextBurnt_68 : decode Y_M_nextBurnt.2.1 68 = .ok (.getfield 82, 3) := by decide +kernel
theorem d_M_nextBurnt_71 : decode Y_M_nextBurnt.2.1 71 = .ok (.iload_n 1, 1) := by decide +kernel
theorem d_M_nextBurnt_72 : decode Y_M_nextBurnt.2.1 72 = .ok (.iaload, 1) := by decide +kernel
theorem d_M_nextBurnt_73 : decode Y_M_nextBurnt.2.1 73 = .ok (.aload_n 0, 1) := by decide +kernel
theorem d_M_nextBurnt_74 : decode Y_M_nextBurnt.2.1 74 = .ok (.iload_n 1, 1) := by decide +kernel
theorem d_M_nextBurnt_75 : decode Y_M_nextBurnt.2.1 75 = .ok (.invokevirtual 328, 3) := by decide +kernel
theorem d_M_nextBurnt_78 : decode Y_M_nextBurnt.2.1 78 = .ok (.iload_n 2, 1) := by decide +kernel
theorem d_M_nextBurnt_79 : decode Y_M_nextBurnt.2.1 79 = .ok (.isub, 1) := by decide +kernel
theorem d_M_nextBurnt_80 : decode Y_M_nextBurnt.2.1 80 = .ok (.if_icmp .lt 5, 3) := by decide +kernel
theorem d_M_nextBurnt_83 : decode Y_M_nextBurnt.2.1 83 = .ok (.iload_n 1, 1) := by decide +kernel
theorem d_M_nextBurnt_84 : decode Y_M_nextBurnt.2.1 84 = .ok (.ireturn, 1) := by decide +kernel
theorem d_M_nextBurnt_85 : decode Y_M_nextBurnt.2.1 85 = .ok (.iinc 1 1, 3) := by decide +kernel
theorem d_M_nextBurnt_88 : decode Y_M_nextBurnt.2.1 88 = .ok (.goto (-86), 3) := by decide +kernel
theorem d_M_nextBurnt_91 : decode Y_M_nextBurnt.2.1 91 = .ok (.iconst (-1), 1) := by decide +kernel
theorem d_M_nextBurnt_92 : decode Y_M_nextBurnt.2.1 92 = .ok (.ireturn, 1) := by decide +kernel
theorem e_M_nextBurnt {l : Launch} {G : GT} {d : Nat} {P : Int → MM → Prop} {m : MM}   (H : wfM m → Wq l G false Y_M_nextBurnt d (QI P) 2 [(0, .inr (.inr 70)), (1, .inl 0)] [] m) : CI l G Y_M_nextBurnt d [.inr (.inr 70)] m P := by
  refine CI.of [(0, .inr (.inr 70))] k_M_nextBurnt.1 (Nat.le_of_ble_eq_true rfl) rfl (Wp.wf (fun hw _ hl hs => ?_))
  have H0 := H hw
  refine Wp.iconst d_M_nextBurnt_0 (by decide) ?_
  refine Wp.istore_n 1 [(0, .inr (.inr 70)), (1, .inl 0)] d_M_nextBurnt_1 rfl (by decide) rfl ?_
  exact H0
theorem s_M_nextBurnt_2 {l : Launch} {G : GT} {d : Nat} {P : Int → MM → Prop} {m : MM} (x1 : Int)  (H : wfM m → inR x1 → ∃ (e1 : Nat) (P2 : Int → MM → Prop), e1 < d ∧ CI l G Y_M_lots e1 [.inr (.inr 70)] m P2 ∧ (∀ z7 m8, P2 z7 m8 → inR z7 → wfM m8 → ((x1 ≥ z7 → (P (-1) m8)) ∧ (¬ (x1 ≥ z7) → (∃ (e17 : Nat) (P18 : Int → MM → Prop), e17 < d ∧ CI l G Y_M_drainOf e17 [.inr (.inr 70), .inl x1] m8 P18 ∧ (∀ z23 m24, P18 z23 m24 → inR z23 → wfM m24 → (Wq l G false Y_M_nextBurnt d (QI P) 18 [(0, .inr (.inr 70)), (1, .inl x1), (2, .inl z23), (3, .inl 0)] [] m24))))))) : Wq l G false Y_M_nextBurnt d (QI P) 2 [(0, .inr (.inr 70)), (1, .inl x1)] [] m := by
  refine Wp.wf (fun hw _ hl hs => ?_)
  have H0 := H hw (hl _ (List.mem_of_getElem? (i := 1) rfl))
  refine Wp.iload_n 1 1 d_M_nextBurnt_2 rfl rfl ?_
  refine Wp.aload_n 0 0 d_M_nextBurnt_3 rfl rfl ?_
  obtain ⟨e1, P2, hd3, ho4, H5⟩ := H0
  refine Wq.VI (st := [.inl x1]) [] d_M_nextBurnt_4 k_M_lots ml_M_338 rfl rfl rfl (fun h => by cases h) (Nat.le_of_ble_eq_true rfl) hd3 ho4 (fun z7 m8 hp9 hz10 hw11 => ?_)
  have H6 := H5 z7 m8 hp9 hz10 hw11
  obtain ⟨H13, H14⟩ := H6
  refine Wp.icmp_ge 91 d_M_nextBurnt_7 (by decide) (fun c12 => ?_) (fun c12 => ?_)
  · have H15 := H13 c12
    refine Wp.iconst d_M_nextBurnt_91 (by decide) ?_
    exact Wq.iret d_M_nextBurnt_92 rfl H15
  · have H16 := H14 c12
    refine Wp.aload_n 0 0 d_M_nextBurnt_10 rfl rfl ?_
    refine Wp.iload_n 1 1 d_M_nextBurnt_11 rfl rfl ?_
    obtain ⟨e17, P18, hd19, ho20, H21⟩ := H16
    refine Wq.VI (st := []) [.inl x1] d_M_nextBurnt_12 k_M_drainOf ml_M_345 rfl rfl rfl (fun h => by cases h) (Nat.le_of_ble_eq_true rfl) hd19 ho20 (fun z23 m24 hp25 hz26 hw27 => ?_)
    have H22 := H21 z23 m24 hp25 hz26 hw27
    refine Wp.istore_n 2 [(0, .inr (.inr 70)), (1, .inl x1), (2, .inl z23)] d_M_nextBurnt_15 rfl (by decide) rfl ?_
    refine Wp.iconst d_M_nextBurnt_16 (by decide) ?_
    refine Wp.istore_n 3 [(0, .inr (.inr 70)), (1, .inl x1), (2, .inl z23), (3, .inl 0)] d_M_nextBurnt_17 rfl (by decide) rfl ?_
    exact H22
theorem s_M_nextBurnt_18 {l : Launch} {G : GT} {d : Nat} {P : Int → MM → Prop} {m : MM} (x1 : Int) (x2 : Int) (x3 : Int)  (H : wfM m → inR x1 → inR x2 → inR x3 → ∃ (e1 : Nat) (P2 : Int → MM → Prop), e1 < d ∧ CI l G Y_M_lots e1 [.inr (.inr 70)] m P2 ∧ (∀ z7 m8, P2 z7 m8 → inR z7 → wfM m8 → ((x3 ≥ z7 → (∃ (e17 : Nat) (P18 : Int → MM → Prop), e17 < d ∧ CI l G Y_M_bit e17 [.inl (m8 70 43), .inl x1] m8 P18 ∧ (∀ z23 m24, P18 z23 m24 → inR z23 → wfM m24 → ((z23 ≠ 0 → ((inR (x1 + 1)) ∧ (Wq l G false Y_M_nextBurnt d (QI P) 2 [(0, .inr (.inr 70)), (1, .inl (x1 + 1))] [] m24))) ∧ (¬ (z23 ≠ 0) → ((0 ≤ x1 ∧ x1 < (5 : Int)) ∧ (∃ (e37 : Nat) (P38 : Int → MM → Prop), e37 < d ∧ CI l G Y_M_brimOf e37 [.inr (.inr 70), .inl x1] m24 P38 ∧ (∀ z43 m44, P38 z43 m44 → inR z43 → wfM m44 → ((inR (z43 - x2)) ∧ (((m24 93 x1) < (z43 - x2) → ((inR (x1 + 1)) ∧ (Wq l G false Y_M_nextBurnt d (QI P) 2 [(0, .inr (.inr 70)), (1, .inl (x1 + 1))] [] m44))) ∧ (¬ ((m24 93 x1) < (z43 - x2)) → (P x1 m44)))))))))))) ∧ (¬ (x3 ≥ z7) → (∃ (e57 : Nat) (P58 : Int → MM → Prop), e57 < d ∧ CI l G Y_M_bit e57 [.inl (m8 70 43), .inl x3] m8 P58 ∧ (∀ z63 m64, P58 z63 m64 → inR z63 → wfM m64 → ((z63 = 0 → ((inR (x2 + 0)) ∧ ((inR (x3 + 1)) ∧ (Wq l G false Y_M_nextBurnt d (QI P) 18 [(0, .inr (.inr 70)), (1, .inl x1), (2, .inl (x2 + 0)), (3, .inl (x3 + 1))] [] m64)))) ∧ (¬ (z63 = 0) → (∃ (e77 : Nat) (P78 : Int → MM → Prop), e77 < d ∧ CI l G Y_M_wideOf e77 [.inr (.inr 70), .inl x1, .inl x3] m64 P78 ∧ (∀ z83 m84, P78 z83 m84 → inR z83 → wfM m84 → ((inR (x2 + z83)) ∧ ((inR (x3 + 1)) ∧ (Wq l G false Y_M_nextBurnt d (QI P) 18 [(0, .inr (.inr 70)), (1, .inl x1), (2, .inl (x2 + z83)), (3, .inl (x3 + 1))] [] m84))))))))))))) : Wq l G false Y_M_nextBurnt d (QI P) 18 [(0, .inr (.inr 70)), (1, .inl x1), (2, .inl x2), (3, .inl x3)] [] m := by
  refine Wp.wf (fun hw _ hl hs => ?_)
  have H0 := H hw (hl _ (List.mem_of_getElem? (i := 1) rfl)) (hl _ (List.mem_of_getElem? (i := 2) rfl)) (hl _ (List.mem_of_getElem? (i := 3) rfl))
  refine Wp.iload_n 3 3 d_M_nextBurnt_18 rfl rfl ?_
  refine Wp.aload_n 0 0 d_M_nextBurnt_19 rfl rfl ?_
  obtain ⟨e1, P2, hd3, ho4, H5⟩ := H0
  refine Wq.VI (st := [.inl x3]) [] d_M_nextBurnt_20 k_M_lots ml_M_338 rfl rfl rfl (fun h => by cases h) (Nat.le_of_ble_eq_true rfl) hd3 ho4 (fun z7 m8 hp9 hz10 hw11 => ?_)
  have H6 := H5 z7 m8 hp9 hz10 hw11
  obtain ⟨H13, H14⟩ := H6
  refine Wp.icmp_ge 56 d_M_nextBurnt_23 (by decide) (fun c12 => ?_) (fun c12 => ?_)
  · have H15 := H13 c12
    refine Wp.aload_n 0 0 d_M_nextBurnt_56 rfl rfl ?_
    refine Wq.getI 43 rfl d_M_nextBurnt_57 fl_M_387 rfl (Or.inl rfl) ?_
    refine Wp.iload_n 1 1 d_M_nextBurnt_60 rfl rfl ?_
    obtain ⟨e17, P18, hd19, ho20, H21⟩ := H15
    refine Wq.SI (st := []) [.inl (m8 70 43), .inl x1] d_M_nextBurnt_61 k_M_bit ml_M_252 rfl  (fun h => by cases h) (Nat.le_of_ble_eq_true rfl) hd19 ho20 (fun z23 m24 hp25 hz26 hw27 => ?_)
    have H22 := H21 z23 m24 hp25 hz26 hw27
    obtain ⟨H29, H30⟩ := H22
    refine Wp.if_ne 85 d_M_nextBurnt_64 (by decide) (fun c28 => ?_) (fun c28 => ?_)
    · have H31 := H29 c28
      obtain ⟨s33, H34⟩ := H31
      refine Wp.iinc 1 1 [(0, .inr (.inr 70)), (1, .inl (x1 + 1)), (2, .inl x2), (3, .inl x3)] d_M_nextBurnt_85 rfl s33 (by decide) rfl ?_
      refine Wp.goto 2 d_M_nextBurnt_88 (by decide) ?_
      refine Wp.pick [0, 1] [(0, .inr (.inr 70)), (1, .inl (x1 + 1))] rfl ?_
      exact H34
    · have H32 := H30 c28
      refine Wp.aload_n 0 0 d_M_nextBurnt_67 rfl rfl ?_
      refine Wp.getP 93 d_M_nextBurnt_68 fl_M_82 rfl rfl rfl ?_
      refine Wp.iload_n 1 1 d_M_nextBurnt_71 rfl rfl ?_
      obtain ⟨s35, H36⟩ := H32
      refine Wp.iald d_M_nextBurnt_72 rfl (Or.inl rfl) s35.1 s35.2 ?_
      refine Wp.aload_n 0 0 d_M_nextBurnt_73 rfl rfl ?_
      refine Wp.iload_n 1 1 d_M_nextBurnt_74 rfl rfl ?_
      obtain ⟨e37, P38, hd39, ho40, H41⟩ := H36
      refine Wq.VI (st := [.inl (m24 93 x1)]) [.inl x1] d_M_nextBurnt_75 k_M_brimOf ml_M_328 rfl rfl rfl (fun h => by cases h) (Nat.le_of_ble_eq_true rfl) hd39 ho40 (fun z43 m44 hp45 hz46 hw47 => ?_)
      have H42 := H41 z43 m44 hp45 hz46 hw47
      refine Wp.iload_n 2 2 d_M_nextBurnt_78 rfl rfl ?_
      obtain ⟨s48, H49⟩ := H42
      refine Wp.isub d_M_nextBurnt_79 s48 ?_
      obtain ⟨H51, H52⟩ := H49
      refine Wp.icmp_lt 85 d_M_nextBurnt_80 (by decide) (fun c50 => ?_) (fun c50 => ?_)
      · have H53 := H51 c50
        obtain ⟨s55, H56⟩ := H53
        refine Wp.iinc 1 1 [(0, .inr (.inr 70)), (1, .inl (x1 + 1)), (2, .inl x2), (3, .inl x3)] d_M_nextBurnt_85 rfl s55 (by decide) rfl ?_
        refine Wp.goto 2 d_M_nextBurnt_88 (by decide) ?_
        refine Wp.pick [0, 1] [(0, .inr (.inr 70)), (1, .inl (x1 + 1))] rfl ?_
        exact H56
      · have H54 := H52 c50
        refine Wp.iload_n 1 1 d_M_nextBurnt_83 rfl rfl ?_
        exact Wq.iret d_M_nextBurnt_84 rfl H54
  · have H16 := H14 c12
    refine Wp.iload_n 2 2 d_M_nextBurnt_26 rfl rfl ?_
    refine Wp.aload_n 0 0 d_M_nextBurnt_27 rfl rfl ?_
    refine Wq.getI 43 rfl d_M_nextBurnt_28 fl_M_387 rfl (Or.inl rfl) ?_
    refine Wp.iload_n 3 3 d_M_nextBurnt_31 rfl rfl ?_
    obtain ⟨e57, P58, hd59, ho60, H61⟩ := H16
    refine Wq.SI (st := [.inl x2]) [.inl (m8 70 43), .inl x3] d_M_nextBurnt_32 k_M_bit ml_M_252 rfl  (fun h => by cases h) (Nat.le_of_ble_eq_true rfl) hd59 ho60 (fun z63 m64 hp65 hz66 hw67 => ?_)
    have H62 := H61 z63 m64 hp65 hz66 hw67
    obtain ⟨H69, H70⟩ := H62
    refine Wp.if_eq 47 d_M_nextBurnt_35 (by decide) (fun c68 => ?_) (fun c68 => ?_)
    · have H71 := H69 c68
      refine Wp.iconst d_M_nextBurnt_47 (by decide) ?_
      obtain ⟨s73, H74⟩ := H71
      refine Wp.iadd d_M_nextBurnt_48 s73 ?_
      refine Wp.istore_n 2 [(0, .inr (.inr 70)), (1, .inl x1), (2, .inl (x2 + 0)), (3, .inl x3)] d_M_nextBurnt_49 rfl (by decide) rfl ?_
      obtain ⟨s75, H76⟩ := H74
      refine Wp.iinc 3 3 [(0, .inr (.inr 70)), (1, .inl x1), (2, .inl (x2 + 0)), (3, .inl (x3 + 1))] d_M_nextBurnt_50 rfl s75 (by decide) rfl ?_
      refine Wp.goto 18 d_M_nextBurnt_53 (by decide) ?_
      exact H76
    · have H72 := H70 c68
      refine Wp.aload_n 0 0 d_M_nextBurnt_38 rfl rfl ?_
      refine Wp.iload_n 1 1 d_M_nextBurnt_39 rfl rfl ?_
      refine Wp.iload_n 3 3 d_M_nextBurnt_40 rfl rfl ?_
      obtain ⟨e77, P78, hd79, ho80, H81⟩ := H72
      refine Wq.VI (st := [.inl x2]) [.inl x1, .inl x3] d_M_nextBurnt_41 k_M_wideOf ml_M_348 rfl rfl rfl (fun h => by cases h) (Nat.le_of_ble_eq_true rfl) hd79 ho80 (fun z83 m84 hp85 hz86 hw87 => ?_)
      have H82 := H81 z83 m84 hp85 hz86 hw87
      refine Wp.goto 48 d_M_nextBurnt_44 (by decide) ?_
      obtain ⟨s88, H89⟩ := H82
      refine Wp.iadd d_M_nextBurnt_48 s88 ?_
      refine Wp.istore_n 2 [(0, .inr (.inr 70)), (1, .inl x1), (2, .inl (x2 + z83)), (3, .inl x3)] d_M_nextBurnt_49 rfl (by decide) rfl ?_
      obtain ⟨s90, H91⟩ := H89
      refine Wp.iinc 3 3 [(0, .inr (.inr 70)), (1, .inl x1), (2, .inl (x2 + z83)), (3, .inl (x3 + 1))] d_M_nextBurnt_50 rfl s90 (by decide) rfl ?_
      refine Wp.goto 18 d_M_nextBurnt_53 (by decide) ?_
      exact H91
theorem d_M_many_0 : decode Y_M_many.2.1 0 = .ok (.aload_n 0, 1) := by decide +kernel
theorem d_M_many_1 : decode Y_M_many.2.1 1 = .ok (.getfield 354, 3) := by decide +kernel
theorem d_M_many_4 : decode Y_M_many.2.1 4 = .ok (.ireturn, 1) := by decide +kernel
theorem e_M_many {l : Launch} {G : GT} {d : Nat} {P : Int → MM → Prop} {m : MM}   (H : wfM m → P (m 70 42) m) : CI l G Y_M_many d [.inr (.inr 70)] m P := by
  refine CI.of [(0, .inr (.inr 70))] k_M_many.1 (Nat.le_of_ble_eq_true rfl) rfl (Wp.wf (fun hw _ hl hs => ?_))
  have H0 := H hw
  refine Wp.aload_n 0 0 d_M_many_0 rfl rfl ?_
  refine Wq.getI 42 rfl d_M_many_1 fl_M_354 rfl (Or.inl rfl) ?_
  exact Wq.iret d_M_many_4 rfl H0
theorem d_M_level_0 : decode Y_M_level.2.1 0 = .ok (.iload_n 1, 1) := by decide +kernel
theorem d_M_level_1 : decode Y_M_level.2.1 1 = .ok (.ifCond .ge 5, 3) := by decide +kernel
theorem d_M_level_4 : decode Y_M_level.2.1 4 = .ok (.iconst (-1), 1) := by decide +kernel
theorem d_M_level_5 : decode Y_M_level.2.1 5 = .ok (.ireturn, 1) := by decide +kernel
theorem d_M_level_6 : decode Y_M_level.2.1 6 = .ok (.iconst 0, 1) := by decide +kernel
theorem d_M_level_7 : decode Y_M_level.2.1 7 = .ok (.istore_n 2, 1) := by decide +kernel
theorem d_M_level_8 : decode Y_M_level.2.1 8 = .ok (.iconst 0, 1) := by decide +kernel
theorem d_M_level_9 : decode Y_M_level.2.1 9 = .ok (.istore_n 3, 1) := by decide +kernel
theorem d_M_level_10 : decode Y_M_level.2.1 10 = .ok (.iload_n 3, 1) := by decide +kernel
theorem d_M_level_11 : decode Y_M_level.2.1 11 = .ok (.aload_n 0, 1) := by decide +kernel
theorem d_M_level_12 : decode Y_M_level.2.1 12 = .ok (.invokevirtual 439, 3) := by decide +kernel
theorem d_M_level_15 : decode Y_M_level.2.1 15 = .ok (.if_icmp .ge 32, 3) := by decide +kernel
theorem d_M_level_18 : decode Y_M_level.2.1 18 = .ok (.aload_n 0, 1) := by decide +kernel
theorem d_M_level_19 : decode Y_M_level.2.1 19 = .ok (.iload_n 3, 1) := by decide +kernel
theorem d_M_level_20 : decode Y_M_level.2.1 20 = .ok (.invokevirtual 442, 3) := by decide +kernel
theorem d_M_level_23 : decode Y_M_level.2.1 23 = .ok (.aload_n 0, 1) := by decide +kernel
theorem d_M_level_24 : decode Y_M_level.2.1 24 = .ok (.invokevirtual 446, 3) := by decide +kernel
theorem d_M_level_27 : decode Y_M_level.2.1 27 = .ok (.iload_n 1, 1) := by decide +kernel
theorem d_M_level_28 : decode Y_M_level.2.1 28 = .ok (.if_icmp .ne 13, 3) := by decide +kernel
theorem d_M_level_31 : decode Y_M_level.2.1 31 = .ok (.aload_n 0, 1) := by decide +kernel
theorem d_M_level_32 : decode Y_M_level.2.1 32 = .ok (.invokevirtual 449, 3) := by decide +kernel
theorem d_M_level_35 : decode Y_M_level.2.1 35 = .ok (.ifCond .eq 6, 3) := by decide +kernel
theorem d_M_level_38 : decode Y_M_level.2.1 38 = .ok (.iinc 2 1, 3) := by decide +kernel
theorem d_M_level_41 : decode Y_M_level.2.1 41 = .ok (.iinc 3 1, 3) := by decide +kernel
theorem d_M_level_44 : decode Y_M_level.2.1 44 = .ok (.goto (-34), 3) := by decide +kernel
theorem d_M_level_47 : decode Y_M_level.2.1 47 = .ok (.iload_n 2, 1) := by decide +kernel
theorem d_M_level_48 : decode Y_M_level.2.1 48 = .ok (.ireturn, 1) := by decide +kernel
theorem e_M_level {l : Launch} {G : GT} {d : Nat} {P : Int → MM → Prop} {m : MM} (x1 : Int)  (H : wfM m → inR x1 → (x1 ≥ 0 → (Wq l G false Y_M_level d (QI P) 10 [(0, .inr (.inr 70)), (1, .inl x1), (2, .inl 0), (3, .inl 0)] [] m)) ∧ (¬ (x1 ≥ 0) → (P (-1) m))) : CI l G Y_M_level d [.inr (.inr 70), .inl x1] m P := by
  refine CI.of [(0, .inr (.inr 70)), (1, .inl x1)] k_M_level.1 (Nat.le_of_ble_eq_true rfl) rfl (Wp.wf (fun hw _ hl hs => ?_))
  have H0 := H hw (hl _ (List.mem_of_getElem? (i := 1) rfl))
  refine Wp.iload_n 1 1 d_M_level_0 rfl rfl ?_
  obtain ⟨H2, H3⟩ := H0
  refine Wp.if_ge 6 d_M_level_1 (by decide) (fun c1 => ?_) (fun c1 => ?_)
  · have H4 := H2 c1
    refine Wp.iconst d_M_level_6 (by decide) ?_
    refine Wp.istore_n 2 [(0, .inr (.inr 70)), (1, .inl x1), (2, .inl 0)] d_M_level_7 rfl (by decide) rfl ?_
    refine Wp.iconst d_M_level_8 (by decide) ?_
    refine Wp.istore_n 3 [(0, .inr (.inr 70)), (1, .inl x1), (2, .inl 0), (3, .inl 0)] d_M_level_9 rfl (by decide) rfl ?_
    exact H4
  · have H5 := H3 c1
    refine Wp.iconst d_M_level_4 (by decide) ?_
    exact Wq.iret d_M_level_5 rfl H5
theorem s_M_level_10 {l : Launch} {G : GT} {d : Nat} {P : Int → MM → Prop} {m : MM} (x1 : Int) (x2 : Int) (x3 : Int)  (H : wfM m → inR x1 → inR x2 → inR x3 → ∃ (e1 : Nat) (P2 : Int → MM → Prop), e1 < d ∧ CI l G Y_M_settledMany e1 [.inr (.inr 70)] m P2 ∧ (∀ z7 m8, P2 z7 m8 → inR z7 → wfM m8 → ((x3 ≥ z7 → (P x2 m8)) ∧ (¬ (x3 ≥ z7) → (∃ (e17 : Nat) (P18 : MM → Prop), e17 < d ∧ CV l G Y_M_laySettled e17 [.inr (.inr 70), .inl x3] m8 P18 ∧ (∀ m24, P18 m24 → wfM m24 → (∃ (e28 : Nat) (P29 : Int → MM → Prop), e28 < d ∧ CI l G Y_M_levelOf e28 [.inr (.inr 70)] m24 P29 ∧ (∀ z34 m35, P29 z34 m35 → inR z34 → wfM m35 → ((z34 ≠ x1 → ((inR (x3 + 1)) ∧ (Wq l G false Y_M_level d (QI P) 10 [(0, .inr (.inr 70)), (1, .inl x1), (2, .inl x2), (3, .inl (x3 + 1))] [] m35))) ∧ (¬ (z34 ≠ x1) → (∃ (e46 : Nat) (P47 : Int → MM → Prop), e46 < d ∧ CI l G Y_M_comesAgain e46 [.inr (.inr 70)] m35 P47 ∧ (∀ z52 m53, P47 z52 m53 → inR z52 → wfM m53 → ((z52 = 0 → ((inR (x3 + 1)) ∧ (Wq l G false Y_M_level d (QI P) 10 [(0, .inr (.inr 70)), (1, .inl x1), (2, .inl x2), (3, .inl (x3 + 1))] [] m53))) ∧ (¬ (z52 = 0) → ((inR (x2 + 1)) ∧ ((inR (x3 + 1)) ∧ (Wq l G false Y_M_level d (QI P) 10 [(0, .inr (.inr 70)), (1, .inl x1), (2, .inl (x2 + 1)), (3, .inl (x3 + 1))] [] m53))))))))))))))))) : Wq l G false Y_M_level d (QI P) 10 [(0, .inr (.inr 70)), (1, .inl x1), (2, .inl x2), (3, .inl x3)] [] m := by
  refine Wp.wf (fun hw _ hl hs => ?_)
  have H0 := H hw (hl _ (List.mem_of_getElem? (i := 1) rfl)) (hl _ (List.mem_of_getElem? (i := 2) rfl)) (hl _ (List.mem_of_getElem? (i := 3) rfl))
  refine Wp.iload_n 3 3 d_M_level_10 rfl rfl ?_
  refine Wp.aload_n 0 0 d_M_level_11 rfl rfl ?_
  obtain ⟨e1, P2, hd3, ho4, H5⟩ := H0
  refine Wq.VI (st := [.inl x3]) [] d_M_level_12 k_M_settledMany ml_M_439 rfl rfl rfl (fun h => by cases h) (Nat.le_of_ble_eq_true rfl) hd3 ho4 (fun z7 m8 hp9 hz10 hw11 => ?_)
  have H6 := H5 z7 m8 hp9 hz10 hw11
  obtain ⟨H13, H14⟩ := H6
  refine Wp.icmp_ge 47 d_M_level_15 (by decide) (fun c12 => ?_) (fun c12 => ?_)
  · have H15 := H13 c12
    refine Wp.iload_n 2 2 d_M_level_47 rfl rfl ?_
    exact Wq.iret d_M_level_48 rfl H15
  · have H16 := H14 c12
    refine Wp.aload_n 0 0 d_M_level_18 rfl rfl ?_
    refine Wp.iload_n 3 3 d_M_level_19 rfl rfl ?_
    obtain ⟨e17, P18, hd19, ho20, H21⟩ := H16
    refine Wq.VV (st := []) [.inl x3] d_M_level_20 k_M_laySettled ml_M_442 rfl rfl rfl (fun h => by cases h) (Nat.le_of_ble_eq_true rfl) hd19 ho20 (fun m24 hp25 hw27 => ?_)
    have H22 := H21 m24 hp25 hw27
    refine Wp.aload_n 0 0 d_M_level_23 rfl rfl ?_
    obtain ⟨e28, P29, hd30, ho31, H32⟩ := H22
    refine Wq.VI (st := []) [] d_M_level_24 k_M_levelOf ml_M_446 rfl rfl rfl (fun h => by cases h) (Nat.le_of_ble_eq_true rfl) hd30 ho31 (fun z34 m35 hp36 hz37 hw38 => ?_)
    have H33 := H32 z34 m35 hp36 hz37 hw38
    refine Wp.iload_n 1 1 d_M_level_27 rfl rfl ?_
    obtain ⟨H40, H41⟩ := H33
    refine Wp.icmp_ne 41 d_M_level_28 (by decide) (fun c39 => ?_) (fun c39 => ?_)
    · have H42 := H40 c39
      obtain ⟨s44, H45⟩ := H42
      refine Wp.iinc 3 3 [(0, .inr (.inr 70)), (1, .inl x1), (2, .inl x2), (3, .inl (x3 + 1))] d_M_level_41 rfl s44 (by decide) rfl ?_
      refine Wp.goto 10 d_M_level_44 (by decide) ?_
      exact H45
    · have H43 := H41 c39
      refine Wp.aload_n 0 0 d_M_level_31 rfl rfl ?_
      obtain ⟨e46, P47, hd48, ho49, H50⟩ := H43
      refine Wq.VI (st := []) [] d_M_level_32 k_M_comesAgain ml_M_449 rfl rfl rfl (fun h => by cases h) (Nat.le_of_ble_eq_true rfl) hd48 ho49 (fun z52 m53 hp54 hz55 hw56 => ?_)
      have H51 := H50 z52 m53 hp54 hz55 hw56
      obtain ⟨H58, H59⟩ := H51
      refine Wp.if_eq 41 d_M_level_35 (by decide) (fun c57 => ?_) (fun c57 => ?_)
      · have H60 := H58 c57
        obtain ⟨s62, H63⟩ := H60
        refine Wp.iinc 3 3 [(0, .inr (.inr 70)), (1, .inl x1), (2, .inl x2), (3, .inl (x3 + 1))] d_M_level_41 rfl s62 (by decide) rfl ?_
        refine Wp.goto 10 d_M_level_44 (by decide) ?_
        exact H63
      · have H61 := H59 c57
        obtain ⟨s64, H65⟩ := H61
        refine Wp.iinc 2 2 [(0, .inr (.inr 70)), (1, .inl x1), (2, .inl (x2 + 1)), (3, .inl x3)] d_M_level_38 rfl s64 (by decide) rfl ?_
        obtain ⟨s66, H67⟩ := H65
        refine Wp.iinc 3 3 [(0, .inr (.inr 70)), (1, .inl x1), (2, .inl (x2 + 1)), (3, .inl (x3 + 1))] d_M_level_41 rfl s66 (by decide) rfl ?_
        refine Wp.goto 10 d_M_level_44 (by decide) ?_
        exact H67
theorem d_M_settledMany_0 : decode Y_M_settledMany.2.1 0 = .ok (.iconst 1, 1) := by decide +kernel
theorem d_M_settledMany_1 : decode Y_M_settledMany.2.1 1 = .ok (.istore_n 1, 1) := by decide +kernel
theorem d_M_settledMany_2 : decode Y_M_settledMany.2.1 2 = .ok (.iconst 0, 1) := by decide +kernel
theorem d_M_settledMany_3 : decode Y_M_settledMany.2.1 3 = .ok (.istore_n 2, 1) := by decide +kernel
theorem d_M_settledMany_4 : decode Y_M_settledMany.2.1 4 = .ok (.iload_n 2, 1) := by decide +kernel
theorem d_M_settledMany_5 : decode Y_M_settledMany.2.1 5 = .ok (.aload_n 0, 1) := by decide +kernel
theorem d_M_settledMany_6 : decode Y_M_settledMany.2.1 6 = .ok (.invokevirtual 338, 3) := by decide +kernel
theorem d_M_settledMany_9 : decode Y_M_settledMany.2.1 9 = .ok (.if_icmp .ge 17, 3) := by decide +kernel
theorem d_M_settledMany_12 : decode Y_M_settledMany.2.1 12 = .ok (.iload_n 1, 1) := by decide +kernel
theorem d_M_settledMany_13 : decode Y_M_settledMany.2.1 13 = .ok (.aload_n 0, 1) := by decide +kernel
theorem d_M_settledMany_14 : decode Y_M_settledMany.2.1 14 = .ok (.iload_n 2, 1) := by decide +kernel
theorem d_M_settledMany_15 : decode Y_M_settledMany.2.1 15 = .ok (.invokevirtual 328, 3) := by decide +kernel
theorem d_M_settledMany_18 : decode Y_M_settledMany.2.1 18 = .ok (.imul, 1) := by decide +kernel
theorem d_M_settledMany_19 : decode Y_M_settledMany.2.1 19 = .ok (.istore_n 1, 1) := by decide +kernel
theorem d_M_settledMany_20 : decode Y_M_settledMany.2.1 20 = .ok (.iinc 2 1, 3) := by decide +kernel
theorem d_M_settledMany_23 : decode Y_M_settledMany.2.1 23 = .ok (.goto (-19), 3) := by decide +kernel
theorem d_M_settledMany_26 : decode Y_M_settledMany.2.1 26 = .ok (.iload_n 1, 1) := by decide +kernel
theorem d_M_settledMany_27 : decode Y_M_settledMany.2.1 27 = .ok (.ireturn, 1) := by decide +kernel
theorem e_M_settledMany {l : Launch} {G : GT} {d : Nat} {P : Int → MM → Prop} {m : MM}   (H : wfM m → Wq l G false Y_M_settledMany d (QI P) 4 [(0, .inr (.inr 70)), (1, .inl 1), (2, .inl 0)] [] m) : CI l G Y_M_settledMany d [.inr (.inr 70)] m P := by
  refine CI.of [(0, .inr (.inr 70))] k_M_settledMany.1 (Nat.le_of_ble_eq_true rfl) rfl (Wp.wf (fun hw _ hl hs => ?_))
  have H0 := H hw
  refine Wp.iconst d_M_settledMany_0 (by decide) ?_
  refine Wp.istore_n 1 [(0, .inr (.inr 70)), (1, .inl 1)] d_M_settledMany_1 rfl (by decide) rfl ?_
  refine Wp.iconst d_M_settledMany_2 (by decide) ?_
  refine Wp.istore_n 2 [(0, .inr (.inr 70)), (1, .inl 1), (2, .inl 0)] d_M_settledMany_3 rfl (by decide) rfl ?_
  exact H0
theorem s_M_settledMany_4 {l : Launch} {G : GT} {d : Nat} {P : Int → MM → Prop} {m : MM} (x1 : Int) (x2 : Int)  (H : wfM m → inR x1 → inR x2 → ∃ (e1 : Nat) (P2 : Int → MM → Prop), e1 < d ∧ CI l G Y_M_lots e1 [.inr (.inr 70)] m P2 ∧ (∀ z7 m8, P2 z7 m8 → inR z7 → wfM m8 → ((x2 ≥ z7 → (P x1 m8)) ∧ (¬ (x2 ≥ z7) → (∃ (e17 : Nat) (P18 : Int → MM → Prop), e17 < d ∧ CI l G Y_M_brimOf e17 [.inr (.inr 70), .inl x2] m8 P18 ∧ (∀ z23 m24, P18 z23 m24 → inR z23 → wfM m24 → ((inR (x1 * z23)) ∧ ((inR (x2 + 1)) ∧ (Wq l G false Y_M_settledMany d (QI P) 4 [(0, .inr (.inr 70)), (1, .inl (x1 * z23)), (2, .inl (x2 + 1))] [] m24))))))))) : Wq l G false Y_M_settledMany d (QI P) 4 [(0, .inr (.inr 70)), (1, .inl x1), (2, .inl x2)] [] m := by
  refine Wp.wf (fun hw _ hl hs => ?_)
  have H0 := H hw (hl _ (List.mem_of_getElem? (i := 1) rfl)) (hl _ (List.mem_of_getElem? (i := 2) rfl))
  refine Wp.iload_n 2 2 d_M_settledMany_4 rfl rfl ?_
  refine Wp.aload_n 0 0 d_M_settledMany_5 rfl rfl ?_
  obtain ⟨e1, P2, hd3, ho4, H5⟩ := H0
  refine Wq.VI (st := [.inl x2]) [] d_M_settledMany_6 k_M_lots ml_M_338 rfl rfl rfl (fun h => by cases h) (Nat.le_of_ble_eq_true rfl) hd3 ho4 (fun z7 m8 hp9 hz10 hw11 => ?_)
  have H6 := H5 z7 m8 hp9 hz10 hw11
  obtain ⟨H13, H14⟩ := H6
  refine Wp.icmp_ge 26 d_M_settledMany_9 (by decide) (fun c12 => ?_) (fun c12 => ?_)
  · have H15 := H13 c12
    refine Wp.iload_n 1 1 d_M_settledMany_26 rfl rfl ?_
    exact Wq.iret d_M_settledMany_27 rfl H15
  · have H16 := H14 c12
    refine Wp.iload_n 1 1 d_M_settledMany_12 rfl rfl ?_
    refine Wp.aload_n 0 0 d_M_settledMany_13 rfl rfl ?_
    refine Wp.iload_n 2 2 d_M_settledMany_14 rfl rfl ?_
    obtain ⟨e17, P18, hd19, ho20, H21⟩ := H16
    refine Wq.VI (st := [.inl x1]) [.inl x2] d_M_settledMany_15 k_M_brimOf ml_M_328 rfl rfl rfl (fun h => by cases h) (Nat.le_of_ble_eq_true rfl) hd19 ho20 (fun z23 m24 hp25 hz26 hw27 => ?_)
    have H22 := H21 z23 m24 hp25 hz26 hw27
    obtain ⟨s28, H29⟩ := H22
    refine Wp.imul d_M_settledMany_18 s28 ?_
    refine Wp.istore_n 1 [(0, .inr (.inr 70)), (1, .inl (x1 * z23)), (2, .inl x2)] d_M_settledMany_19 rfl (by decide) rfl ?_
    obtain ⟨s30, H31⟩ := H29
    refine Wp.iinc 2 2 [(0, .inr (.inr 70)), (1, .inl (x1 * z23)), (2, .inl (x2 + 1))] d_M_settledMany_20 rfl s30 (by decide) rfl ?_
    refine Wp.goto 4 d_M_settledMany_23 (by decide) ?_
    exact H31
theorem d_M_laySettled_0 : decode Y_M_laySettled.2.1 0 = .ok (.iload_n 1, 1) := by decide +kernel
theorem d_M_laySettled_1 : decode Y_M_laySettled.2.1 1 = .ok (.istore_n 2, 1) := by decide +kernel
theorem d_M_laySettled_2 : decode Y_M_laySettled.2.1 2 = .ok (.aload_n 0, 1) := by decide +kernel
theorem d_M_laySettled_3 : decode Y_M_laySettled.2.1 3 = .ok (.invokevirtual 338, 3) := by decide +kernel
theorem d_M_laySettled_6 : decode Y_M_laySettled.2.1 6 = .ok (.iconst 1, 1) := by decide +kernel
theorem d_M_laySettled_7 : decode Y_M_laySettled.2.1 7 = .ok (.isub, 1) := by decide +kernel
theorem d_M_laySettled_8 : decode Y_M_laySettled.2.1 8 = .ok (.istore_n 3, 1) := by decide +kernel
theorem d_M_laySettled_9 : decode Y_M_laySettled.2.1 9 = .ok (.iload_n 3, 1) := by decide +kernel
theorem d_M_laySettled_10 : decode Y_M_laySettled.2.1 10 = .ok (.ifCond .lt 30, 3) := by decide +kernel
theorem d_M_laySettled_13 : decode Y_M_laySettled.2.1 13 = .ok (.aload_n 0, 1) := by decide +kernel
theorem d_M_laySettled_14 : decode Y_M_laySettled.2.1 14 = .ok (.getfield 82, 3) := by decide +kernel
theorem d_M_laySettled_17 : decode Y_M_laySettled.2.1 17 = .ok (.iload_n 3, 1) := by decide +kernel
theorem d_M_laySettled_18 : decode Y_M_laySettled.2.1 18 = .ok (.iload_n 2, 1) := by decide +kernel
theorem d_M_laySettled_19 : decode Y_M_laySettled.2.1 19 = .ok (.aload_n 0, 1) := by decide +kernel
theorem d_M_laySettled_20 : decode Y_M_laySettled.2.1 20 = .ok (.iload_n 3, 1) := by decide +kernel
theorem d_M_laySettled_21 : decode Y_M_laySettled.2.1 21 = .ok (.invokevirtual 328, 3) := by decide +kernel
theorem d_M_laySettled_24 : decode Y_M_laySettled.2.1 24 = .ok (.irem, 1) := by decide +kernel
theorem d_M_laySettled_25 : decode Y_M_laySettled.2.1 25 = .ok (.iastore, 1) := by decide +kernel
theorem d_M_laySettled_26 : decode Y_M_laySettled.2.1 26 = .ok (.iload_n 2, 1) := by decide +kernel
theorem d_M_laySettled_27 : decode Y_M_laySettled.2.1 27 = .ok (.aload_n 0, 1) := by decide +kernel
theorem d_M_laySettled_28 : decode Y_M_laySettled.2.1 28 = .ok (.iload_n 3, 1) := by decide +kernel
theorem d_M_laySettled_29 : decode Y_M_laySettled.2.1 29 = .ok (.invokevirtual 328, 3) := by decide +kernel
theorem d_M_laySettled_32 : decode Y_M_laySettled.2.1 32 = .ok (.idiv, 1) := by decide +kernel
theorem d_M_laySettled_33 : decode Y_M_laySettled.2.1 33 = .ok (.istore_n 2, 1) := by decide +kernel
theorem d_M_laySettled_34 : decode Y_M_laySettled.2.1 34 = .ok (.iinc 3 (-1), 3) := by decide +kernel
theorem d_M_laySettled_37 : decode Y_M_laySettled.2.1 37 = .ok (.goto (-28), 3) := by decide +kernel
theorem d_M_laySettled_40 : decode Y_M_laySettled.2.1 40 = .ok (.return_, 1) := by decide +kernel
theorem e_M_laySettled {l : Launch} {G : GT} {d : Nat} {P : MM → Prop} {m : MM} (x1 : Int)  (H : wfM m → inR x1 → ∃ (e1 : Nat) (P2 : Int → MM → Prop), e1 < d ∧ CI l G Y_M_lots e1 [.inr (.inr 70)] m P2 ∧ (∀ z7 m8, P2 z7 m8 → inR z7 → wfM m8 → ((inR (z7 - 1)) ∧ (Wq l G false Y_M_laySettled d (QV P) 9 [(0, .inr (.inr 70)), (2, .inl x1), (3, .inl (z7 - 1))] [] m8)))) : CV l G Y_M_laySettled d [.inr (.inr 70), .inl x1] m P := by
  refine CV.of [(0, .inr (.inr 70)), (1, .inl x1)] k_M_laySettled.1 (Nat.le_of_ble_eq_true rfl) rfl (Wp.wf (fun hw _ hl hs => ?_))
  have H0 := H hw (hl _ (List.mem_of_getElem? (i := 1) rfl))
  refine Wp.iload_n 1 1 d_M_laySettled_0 rfl rfl ?_
  refine Wp.istore_n 2 [(0, .inr (.inr 70)), (1, .inl x1), (2, .inl x1)] d_M_laySettled_1 rfl (by decide) rfl ?_
  refine Wp.aload_n 0 0 d_M_laySettled_2 rfl rfl ?_
  obtain ⟨e1, P2, hd3, ho4, H5⟩ := H0
  refine Wq.VI (st := []) [] d_M_laySettled_3 k_M_lots ml_M_338 rfl rfl rfl (fun h => by cases h) (Nat.le_of_ble_eq_true rfl) hd3 ho4 (fun z7 m8 hp9 hz10 hw11 => ?_)
  have H6 := H5 z7 m8 hp9 hz10 hw11
  refine Wp.iconst d_M_laySettled_6 (by decide) ?_
  obtain ⟨s12, H13⟩ := H6
  refine Wp.isub d_M_laySettled_7 s12 ?_
  refine Wp.istore_n 3 [(0, .inr (.inr 70)), (1, .inl x1), (2, .inl x1), (3, .inl (z7 - 1))] d_M_laySettled_8 rfl (by decide) rfl ?_
  refine Wp.pick [0, 2, 3] [(0, .inr (.inr 70)), (2, .inl x1), (3, .inl (z7 - 1))] rfl ?_
  exact H13
theorem s_M_laySettled_9 {l : Launch} {G : GT} {d : Nat} {P : MM → Prop} {m : MM} (x2 : Int) (x3 : Int)  (H : wfM m → inR x2 → inR x3 → (x3 < 0 → (P m)) ∧ (¬ (x3 < 0) → (∃ (e6 : Nat) (P7 : Int → MM → Prop), e6 < d ∧ CI l G Y_M_brimOf e6 [.inr (.inr 70), .inl x3] m P7 ∧ (∀ z12 m13, P7 z12 m13 → inR z12 → wfM m13 → ((z12 ≠ 0) ∧ ((0 ≤ x3 ∧ x3 < (5 : Int)) ∧ (∀ m19, m19 = up m13 93 x3 (Int.tmod x2 z12) → (∃ (e24 : Nat) (P25 : Int → MM → Prop), e24 < d ∧ CI l G Y_M_brimOf e24 [.inr (.inr 70), .inl x3] m19 P25 ∧ (∀ z30 m31, P25 z30 m31 → inR z30 → wfM m31 → ((0 < z30) ∧ ((inR (x3 + (-1))) ∧ (Wq l G false Y_M_laySettled d (QV P) 9 [(0, .inr (.inr 70)), (2, .inl (Int.tdiv x2 z30)), (3, .inl (x3 + (-1)))] [] m31)))))))))))) : Wq l G false Y_M_laySettled d (QV P) 9 [(0, .inr (.inr 70)), (2, .inl x2), (3, .inl x3)] [] m := by
  refine Wp.wf (fun hw _ hl hs => ?_)
  have H0 := H hw (hl _ (List.mem_of_getElem? (i := 1) rfl)) (hl _ (List.mem_of_getElem? (i := 2) rfl))
  refine Wp.iload_n 2 3 d_M_laySettled_9 rfl rfl ?_
  obtain ⟨H2, H3⟩ := H0
  refine Wp.if_lt 40 d_M_laySettled_10 (by decide) (fun c1 => ?_) (fun c1 => ?_)
  · have H4 := H2 c1
    exact Wq.vret d_M_laySettled_40 rfl H4
  · have H5 := H3 c1
    refine Wp.aload_n 0 0 d_M_laySettled_13 rfl rfl ?_
    refine Wp.getP 93 d_M_laySettled_14 fl_M_82 rfl rfl rfl ?_
    refine Wp.iload_n 2 3 d_M_laySettled_17 rfl rfl ?_
    refine Wp.iload_n 1 2 d_M_laySettled_18 rfl rfl ?_
    refine Wp.aload_n 0 0 d_M_laySettled_19 rfl rfl ?_
    refine Wp.iload_n 2 3 d_M_laySettled_20 rfl rfl ?_
    obtain ⟨e6, P7, hd8, ho9, H10⟩ := H5
    refine Wq.VI (st := [.inl x2, .inl x3, .inr (.inr 93)]) [.inl x3] d_M_laySettled_21 k_M_brimOf ml_M_328 rfl rfl rfl (fun h => by cases h) (Nat.le_of_ble_eq_true rfl) hd8 ho9 (fun z12 m13 hp14 hz15 hw16 => ?_)
    have H11 := H10 z12 m13 hp14 hz15 hw16
    obtain ⟨s17, H18⟩ := H11
    refine Wq.irem d_M_laySettled_24 s17 ?_
    obtain ⟨s39, H40⟩ := H18
    refine Wq.iast d_M_laySettled_25 rfl s39.1 s39.2 (fun m19 hm20 => ?_)
    have H21 := H40 m19 hm20
    refine Wp.iload_n 1 2 d_M_laySettled_26 rfl rfl ?_
    refine Wp.aload_n 0 0 d_M_laySettled_27 rfl rfl ?_
    refine Wp.iload_n 2 3 d_M_laySettled_28 rfl rfl ?_
    obtain ⟨e24, P25, hd26, ho27, H28⟩ := H21
    refine Wq.VI (st := [.inl x2]) [.inl x3] d_M_laySettled_29 k_M_brimOf ml_M_328 rfl rfl rfl (fun h => by cases h) (Nat.le_of_ble_eq_true rfl) hd26 ho27 (fun z30 m31 hp32 hz33 hw34 => ?_)
    have H29 := H28 z30 m31 hp32 hz33 hw34
    obtain ⟨s35, H36⟩ := H29
    refine Wq.idiv d_M_laySettled_32 s35 ?_
    refine Wp.istore_n 2 [(0, .inr (.inr 70)), (2, .inl (Int.tdiv x2 z30)), (3, .inl x3)] d_M_laySettled_33 rfl (by decide) rfl ?_
    obtain ⟨s37, H38⟩ := H36
    refine Wp.iinc 2 3 [(0, .inr (.inr 70)), (2, .inl (Int.tdiv x2 z30)), (3, .inl (x3 + (-1)))] d_M_laySettled_34 rfl s37 (by decide) rfl ?_
    refine Wp.goto 9 d_M_laySettled_37 (by decide) ?_
    exact H38
theorem d_M_levelOf_0 : decode Y_M_levelOf.2.1 0 = .ok (.iconst 0, 1) := by decide +kernel
theorem d_M_levelOf_1 : decode Y_M_levelOf.2.1 1 = .ok (.istore_n 1, 1) := by decide +kernel
theorem d_M_levelOf_2 : decode Y_M_levelOf.2.1 2 = .ok (.iconst 0, 1) := by decide +kernel
theorem d_M_levelOf_3 : decode Y_M_levelOf.2.1 3 = .ok (.istore_n 2, 1) := by decide +kernel
theorem d_M_levelOf_4 : decode Y_M_levelOf.2.1 4 = .ok (.iload_n 2, 1) := by decide +kernel
theorem d_M_levelOf_5 : decode Y_M_levelOf.2.1 5 = .ok (.aload_n 0, 1) := by decide +kernel
theorem d_M_levelOf_6 : decode Y_M_levelOf.2.1 6 = .ok (.invokevirtual 338, 3) := by decide +kernel
theorem d_M_levelOf_9 : decode Y_M_levelOf.2.1 9 = .ok (.if_icmp .ge 18, 3) := by decide +kernel
theorem d_M_levelOf_12 : decode Y_M_levelOf.2.1 12 = .ok (.iload_n 1, 1) := by decide +kernel
theorem d_M_levelOf_13 : decode Y_M_levelOf.2.1 13 = .ok (.aload_n 0, 1) := by decide +kernel
theorem d_M_levelOf_14 : decode Y_M_levelOf.2.1 14 = .ok (.getfield 82, 3) := by decide +kernel
theorem d_M_levelOf_17 : decode Y_M_levelOf.2.1 17 = .ok (.iload_n 2, 1) := by decide +kernel
theorem d_M_levelOf_18 : decode Y_M_levelOf.2.1 18 = .ok (.iaload, 1) := by decide +kernel
theorem d_M_levelOf_19 : decode Y_M_levelOf.2.1 19 = .ok (.iadd, 1) := by decide +kernel
theorem d_M_levelOf_20 : decode Y_M_levelOf.2.1 20 = .ok (.istore_n 1, 1) := by decide +kernel
theorem d_M_levelOf_21 : decode Y_M_levelOf.2.1 21 = .ok (.iinc 2 1, 3) := by decide +kernel
theorem d_M_levelOf_24 : decode Y_M_levelOf.2.1 24 = .ok (.goto (-20), 3) := by decide +kernel
theorem d_M_levelOf_27 : decode Y_M_levelOf.2.1 27 = .ok (.iload_n 1, 1) := by decide +kernel
theorem d_M_levelOf_28 : decode Y_M_levelOf.2.1 28 = .ok (.ireturn, 1) := by decide +kernel
theorem e_M_levelOf {l : Launch} {G : GT} {d : Nat} {P : Int → MM → Prop} {m : MM}   (H : wfM m → Wq l G false Y_M_levelOf d (QI P) 4 [(0, .inr (.inr 70)), (1, .inl 0), (2, .inl 0)] [] m) : CI l G Y_M_levelOf d [.inr (.inr 70)] m P := by
  refine CI.of [(0, .inr (.inr 70))] k_M_levelOf.1 (Nat.le_of_ble_eq_true rfl) rfl (Wp.wf (fun hw _ hl hs => ?_))
  have H0 := H hw
  refine Wp.iconst d_M_levelOf_0 (by decide) ?_
  refine Wp.istore_n 1 [(0, .inr (.inr 70)), (1, .inl 0)] d_M_levelOf_1 rfl (by decide) rfl ?_
  refine Wp.iconst d_M_levelOf_2 (by decide) ?_
  refine Wp.istore_n 2 [(0, .inr (.inr 70)), (1, .inl 0), (2, .inl 0)] d_M_levelOf_3 rfl (by decide) rfl ?_
  exact H0
theorem s_M_levelOf_4 {l : Launch} {G : GT} {d : Nat} {P : Int → MM → Prop} {m : MM} (x1 : Int) (x2 : Int)  (H : wfM m → inR x1 → inR x2 → ∃ (e1 : Nat) (P2 : Int → MM → Prop), e1 < d ∧ CI l G Y_M_lots e1 [.inr (.inr 70)] m P2 ∧ (∀ z7 m8, P2 z7 m8 → inR z7 → wfM m8 → ((x2 ≥ z7 → (P x1 m8)) ∧ (¬ (x2 ≥ z7) → ((0 ≤ x2 ∧ x2 < (5 : Int)) ∧ ((inR (x1 + (m8 93 x2))) ∧ ((inR (x2 + 1)) ∧ (Wq l G false Y_M_levelOf d (QI P) 4 [(0, .inr (.inr 70)), (1, .inl (x1 + (m8 93 x2))), (2, .inl (x2 + 1))] [] m8)))))))) : Wq l G false Y_M_levelOf d (QI P) 4 [(0, .inr (.inr 70)), (1, .inl x1), (2, .inl x2)] [] m := by
  refine Wp.wf (fun hw _ hl hs => ?_)
  have H0 := H hw (hl _ (List.mem_of_getElem? (i := 1) rfl)) (hl _ (List.mem_of_getElem? (i := 2) rfl))
  refine Wp.iload_n 2 2 d_M_levelOf_4 rfl rfl ?_
  refine Wp.aload_n 0 0 d_M_levelOf_5 rfl rfl ?_
  obtain ⟨e1, P2, hd3, ho4, H5⟩ := H0
  refine Wq.VI (st := [.inl x2]) [] d_M_levelOf_6 k_M_lots ml_M_338 rfl rfl rfl (fun h => by cases h) (Nat.le_of_ble_eq_true rfl) hd3 ho4 (fun z7 m8 hp9 hz10 hw11 => ?_)
  have H6 := H5 z7 m8 hp9 hz10 hw11
  obtain ⟨H13, H14⟩ := H6
  refine Wp.icmp_ge 27 d_M_levelOf_9 (by decide) (fun c12 => ?_) (fun c12 => ?_)
  · have H15 := H13 c12
    refine Wp.iload_n 1 1 d_M_levelOf_27 rfl rfl ?_
    exact Wq.iret d_M_levelOf_28 rfl H15
  · have H16 := H14 c12
    refine Wp.iload_n 1 1 d_M_levelOf_12 rfl rfl ?_
    refine Wp.aload_n 0 0 d_M_levelOf_13 rfl rfl ?_
    refine Wp.getP 93 d_M_levelOf_14 fl_M_82 rfl rfl rfl ?_
    refine Wp.iload_n 2 2 d_M_levelOf_17 rfl rfl ?_
    obtain ⟨s17, H18⟩ := H16
    refine Wp.iald d_M_levelOf_18 rfl (Or.inl rfl) s17.1 s17.2 ?_
    obtain ⟨s19, H20⟩ := H18
    refine Wp.iadd d_M_levelOf_19 s19 ?_
    refine Wp.istore_n 1 [(0, .inr (.inr 70)), (1, .inl (x1 + (m8 93 x2))), (2, .inl x2)] d_M_levelOf_20 rfl (by decide) rfl ?_
    obtain ⟨s21, H22⟩ := H20
    refine Wp.iinc 2 2 [(0, .inr (.inr 70)), (1, .inl (x1 + (m8 93 x2))), (2, .inl (x2 + 1))] d_M_levelOf_21 rfl s21 (by decide) rfl ?_
    refine Wp.goto 4 d_M_levelOf_24 (by decide) ?_
    exact H22
theorem d_M_comesAgain_0 : decode Y_M_comesAgain.2.1 0 = .ok (.aload_n 0, 1) := by decide +kernel
theorem d_M_comesAgain_1 : decode Y_M_comesAgain.2.1 1 = .ok (.iconst 0, 1) := by decide +kernel
theorem d_M_comesAgain_2 : decode Y_M_comesAgain.2.1 2 = .ok (.putfield 387, 3) := by decide +kernel
theorem d_M_comesAgain_5 : decode Y_M_comesAgain.2.1 5 = .ok (.aload_n 0, 1) := by decide +kernel
theorem d_M_comesAgain_6 : decode Y_M_comesAgain.2.1 6 = .ok (.invokevirtual 390, 3) := by decide +kernel
theorem d_M_comesAgain_9 : decode Y_M_comesAgain.2.1 9 = .ok (.istore_n 1, 1) := by decide +kernel
theorem d_M_comesAgain_10 : decode Y_M_comesAgain.2.1 10 = .ok (.iload_n 1, 1) := by decide +kernel
theorem d_M_comesAgain_11 : decode Y_M_comesAgain.2.1 11 = .ok (.ifCond .lt 23, 3) := by decide +kernel
theorem d_M_comesAgain_14 : decode Y_M_comesAgain.2.1 14 = .ok (.aload_n 0, 1) := by decide +kernel
theorem d_M_comesAgain_15 : decode Y_M_comesAgain.2.1 15 = .ok (.dup, 1) := by decide +kernel
theorem d_M_comesAgain_16 : decode Y_M_comesAgain.2.1 16 = .ok (.getfield 387, 3) := by decide +kernel
theorem d_M_comesAgain_19 : decode Y_M_comesAgain.2.1 19 = .ok (.iconst 1, 1) := by decide +kernel
theorem d_M_comesAgain_20 : decode Y_M_comesAgain.2.1 20 = .ok (.iload_n 1, 1) := by decide +kernel
theorem d_M_comesAgain_21 : decode Y_M_comesAgain.2.1 21 = .ok (.ishl, 1) := by decide +kernel
theorem d_M_comesAgain_22 : decode Y_M_comesAgain.2.1 22 = .ok (.ior, 1) := by decide +kernel
theorem d_M_comesAgain_23 : decode Y_M_comesAgain.2.1 23 = .ok (.putfield 387, 3) := by decide +kernel
theorem d_M_comesAgain_26 : decode Y_M_comesAgain.2.1 26 = .ok (.aload_n 0, 1) := by decide +kernel
theorem d_M_comesAgain_27 : decode Y_M_comesAgain.2.1 27 = .ok (.invokevirtual 390, 3) := by decide +kernel
theorem d_M_comesAgain_30 : decode Y_M_comesAgain.2.1 30 = .ok (.istore_n 1, 1) := by decide +kernel
theorem d_M_comesAgain_31 : decode Y_M_comesAgain.2.1 31 = .ok (.goto (-21), 3) := by decide +kernel
theorem d_M_comesAgain_34 : decode Y_M_comesAgain.2.1 34 = .ok (.aload_n 0, 1) := by decide +kernel
theorem d_M_comesAgain_35 : decode Y_M_comesAgain.2.1 35 = .ok (.getfield 387, 3) := by decide +kernel
theorem d_M_comesAgain_38 : decode Y_M_comesAgain.2.1 38 = .ok (.iconst 1, 1) := by decide +kernel
theorem d_M_comesAgain_39 : decode Y_M_comesAgain.2.1 39 = .ok (.aload_n 0, 1) := by decide +kernel
theorem d_M_comesAgain_40 : decode Y_M_comesAgain.2.1 40 = .ok (.invokevirtual 338, 3) := by decide +kernel
theorem d_M_comesAgain_43 : decode Y_M_comesAgain.2.1 43 = .ok (.ishl, 1) := by decide +kernel
theorem d_M_comesAgain_44 : decode Y_M_comesAgain.2.1 44 = .ok (.iconst 1, 1) := by decide +kernel
theorem d_M_comesAgain_45 : decode Y_M_comesAgain.2.1 45 = .ok (.isub, 1) := by decide +kernel
theorem d_M_comesAgain_46 : decode Y_M_comesAgain.2.1 46 = .ok (.if_icmp .ne 7, 3) := by decide +kernel
theorem d_M_comesAgain_49 : decode Y_M_comesAgain.2.1 49 = .ok (.iconst 1, 1) := by decide +kernel
theorem d_M_comesAgain_50 : decode Y_M_comesAgain.2.1 50 = .ok (.goto 4, 3) := by decide +kernel
theorem d_M_comesAgain_53 : decode Y_M_comesAgain.2.1 53 = .ok (.iconst 0, 1) := by decide +kernel
theorem d_M_comesAgain_54 : decode Y_M_comesAgain.2.1 54 = .ok (.ireturn, 1) := by decide +kernel
theorem e_M_comesAgain {l : Launch} {G : GT} {d : Nat} {P : Int → MM → Prop} {m : MM}   (H : wfM m → ∀ m1, m1 = up m 70 43 0 → (∃ (e4 : Nat) (P5 : Int → MM → Prop), e4 < d ∧ CI l G Y_M_nextBurnt e4 [.inr (.inr 70)] m1 P5 ∧ (∀ z10 m11, P5 z10 m11 → inR z10 → wfM m11 → (Wq l G false Y_M_comesAgain d (QI P) 10 [(0, .inr (.inr 70)), (1, .inl z10)] [] m11)))) : CI l G Y_M_comesAgain d [.inr (.inr 70)] m P := by
  refine CI.of [(0, .inr (.inr 70))] k_M_comesAgain.1 (Nat.le_of_ble_eq_true rfl) rfl (Wp.wf (fun hw _ hl hs => ?_))
  have H0 := H hw
  refine Wp.aload_n 0 0 d_M_comesAgain_0 rfl rfl ?_
  refine Wp.iconst d_M_comesAgain_1 (by decide) ?_
  refine Wq.putI 43 rfl d_M_comesAgain_2 fl_M_387 (fun _ _ _ h => by cases h; rfl) rfl rfl rfl (fun m1 hm2 => ?_)
  have H3 := H0 m1 hm2
  refine Wp.aload_n 0 0 d_M_comesAgain_5 rfl rfl ?_
  obtain ⟨e4, P5, hd6, ho7, H8⟩ := H3
  refine Wq.VI (st := []) [] d_M_comesAgain_6 k_M_nextBurnt ml_M_390 rfl rfl rfl (fun h => by cases h) (Nat.le_of_ble_eq_true rfl) hd6 ho7 (fun z10 m11 hp12 hz13 hw14 => ?_)
  have H9 := H8 z10 m11 hp12 hz13 hw14
  refine Wp.istore_n 1 [(0, .inr (.inr 70)), (1, .inl z10)] d_M_comesAgain_9 rfl (by decide) rfl ?_
  exact H9
theorem s_M_comesAgain_10 {l : Launch} {G : GT} {d : Nat} {P : Int → MM → Prop} {m : MM} (x1 : Int)  (H : wfM m → inR x1 → (x1 < 0 → (∃ (e6 : Nat) (P7 : Int → MM → Prop), e6 < d ∧ CI l G Y_M_lots e6 [.inr (.inr 70)] m P7 ∧ (∀ z12 m13, P7 z12 m13 → inR z12 → wfM m13 → ((inR ((bShl 1 z12) - 1)) ∧ (((m 70 43) ≠ ((bShl 1 z12) - 1) → (P 0 m13)) ∧ (¬ ((m 70 43) ≠ ((bShl 1 z12) - 1)) → (P 1 m13))))))) ∧ (¬ (x1 < 0) → (∀ m24, m24 = up m 70 43 (bOr (m 70 43) (bShl 1 x1)) → (∃ (e27 : Nat) (P28 : Int → MM → Prop), e27 < d ∧ CI l G Y_M_nextBurnt e27 [.inr (.inr 70)] m24 P28 ∧ (∀ z33 m34, P28 z33 m34 → inR z33 → wfM m34 → (Wq l G false Y_M_comesAgain d (QI P) 10 [(0, .inr (.inr 70)), (1, .inl z33)] [] m34)))))) : Wq l G false Y_M_comesAgain d (QI P) 10 [(0, .inr (.inr 70)), (1, .inl x1)] [] m := by
  refine Wp.wf (fun hw _ hl hs => ?_)
  have H0 := H hw (hl _ (List.mem_of_getElem? (i := 1) rfl))
  refine Wp.iload_n 1 1 d_M_comesAgain_10 rfl rfl ?_
  obtain ⟨H2, H3⟩ := H0
  refine Wp.if_lt 34 d_M_comesAgain_11 (by decide) (fun c1 => ?_) (fun c1 => ?_)
  · have H4 := H2 c1
    refine Wp.aload_n 0 0 d_M_comesAgain_34 rfl rfl ?_
    refine Wq.getI 43 rfl d_M_comesAgain_35 fl_M_387 rfl (Or.inl rfl) ?_
    refine Wp.iconst d_M_comesAgain_38 (by decide) ?_
    refine Wp.aload_n 0 0 d_M_comesAgain_39 rfl rfl ?_
    obtain ⟨e6, P7, hd8, ho9, H10⟩ := H4
    refine Wq.VI (st := [.inl 1, .inl (m 70 43)]) [] d_M_comesAgain_40 k_M_lots ml_M_338 rfl rfl rfl (fun h => by cases h) (Nat.le_of_ble_eq_true rfl) hd8 ho9 (fun z12 m13 hp14 hz15 hw16 => ?_)
    have H11 := H10 z12 m13 hp14 hz15 hw16
    refine Wp.ishl d_M_comesAgain_43 ?_
    refine Wp.iconst d_M_comesAgain_44 (by decide) ?_
    obtain ⟨s17, H18⟩ := H11
    refine Wp.isub d_M_comesAgain_45 s17 ?_
    obtain ⟨H20, H21⟩ := H18
    refine Wp.icmp_ne 53 d_M_comesAgain_46 (by decide) (fun c19 => ?_) (fun c19 => ?_)
    · have H22 := H20 c19
      refine Wp.iconst d_M_comesAgain_53 (by decide) ?_
      exact Wq.zret d_M_comesAgain_54 rfl (by decide) H22
    · have H23 := H21 c19
      refine Wp.iconst d_M_comesAgain_49 (by decide) ?_
      refine Wp.goto 54 d_M_comesAgain_50 (by decide) ?_
      exact Wq.zret d_M_comesAgain_54 rfl (by decide) H23
  · have H5 := H3 c1
    refine Wp.aload_n 0 0 d_M_comesAgain_14 rfl rfl ?_
    refine Wp.dup d_M_comesAgain_15 rfl ?_
    refine Wq.getI 43 rfl d_M_comesAgain_16 fl_M_387 rfl (Or.inl rfl) ?_
    refine Wp.iconst d_M_comesAgain_19 (by decide) ?_
    refine Wp.iload_n 1 1 d_M_comesAgain_20 rfl rfl ?_
    refine Wp.ishl d_M_comesAgain_21 ?_
    refine Wp.ior d_M_comesAgain_22 ?_
    refine Wq.putI 43 rfl d_M_comesAgain_23 fl_M_387 (fun _ _ _ h => by cases h; rfl) rfl rfl rfl (fun m24 hm25 => ?_)
    have H26 := H5 m24 hm25
    refine Wp.aload_n 0 0 d_M_comesAgain_26 rfl rfl ?_
    obtain ⟨e27, P28, hd29, ho30, H31⟩ := H26
    refine Wq.VI (st := []) [] d_M_comesAgain_27 k_M_nextBurnt ml_M_390 rfl rfl rfl (fun h => by cases h) (Nat.le_of_ble_eq_true rfl) hd29 ho30 (fun z33 m34 hp35 hz36 hw37 => ?_)
    have H32 := H31 z33 m34 hp35 hz36 hw37
    refine Wp.istore_n 1 [(0, .inr (.inr 70)), (1, .inl z33)] d_M_comesAgain_30 rfl (by decide) rfl ?_
    refine Wp.goto 10 d_M_comesAgain_31 (by decide) ?_
    exact H32
theorem d_M_levels_0 : decode Y_M_levels.2.1 0 = .ok (.iload_n 1, 1) := by decide +kernel
theorem d_M_levels_1 : decode Y_M_levels.2.1 1 = .ok (.iconst 0, 1) := by decide +kernel
theorem d_M_levels_2 : decode Y_M_levels.2.1 2 = .ok (.iconst 1, 1) := by decide +kernel
theorem d_M_levels_3 : decode Y_M_levels.2.1 3 = .ok (.invokestatic 341, 3) := by decide +kernel
theorem d_M_levels_6 : decode Y_M_levels.2.1 6 = .ok (.ifCond .ne 5, 3) := by decide +kernel
theorem d_M_levels_9 : decode Y_M_levels.2.1 9 = .ok (.iconst (-1), 1) := by decide +kernel
theorem d_M_levels_10 : decode Y_M_levels.2.1 10 = .ok (.ireturn, 1) := by decide +kernel
theorem d_M_levels_11 : decode Y_M_levels.2.1 11 = .ok (.iconst 0, 1) := by decide +kernel
theorem d_M_levels_12 : decode Y_M_levels.2.1 12 = .ok (.istore_n 2, 1) := by decide +kernel
theorem d_M_levels_13 : decode Y_M_levels.2.1 13 = .ok (.iconst 0, 1) := by decide +kernel
theorem d_M_levels_14 : decode Y_M_levels.2.1 14 = .ok (.istore_n 3, 1) := by decide +kernel
theorem d_M_levels_15 : decode Y_M_levels.2.1 15 = .ok (.iload_n 3, 1) := by decide +kernel
theorem d_M_levels_16 : decode Y_M_levels.2.1 16 = .ok (.aload_n 0, 1) := by decide +kernel
theorem d_M_levels_17 : decode Y_M_levels.2.1 17 = .ok (.invokevirtual 338, 3) := by decide +kernel
theorem d_M_levels_20 : decode Y_M_levels.2.1 20 = .ok (.if_icmp .ge 19, 3) := by decide +kernel
theorem d_M_levels_23 : decode Y_M_levels.2.1 23 = .ok (.iload_n 2, 1) := by decide +kernel
theorem d_M_levels_24 : decode Y_M_levels.2.1 24 = .ok (.aload_n 0, 1) := by decide +kernel
theorem d_M_levels_25 : decode Y_M_levels.2.1 25 = .ok (.iload_n 3, 1) := by decide +kernel
theorem d_M_levels_26 : decode Y_M_levels.2.1 26 = .ok (.invokevirtual 328, 3) := by decide +kernel
theorem d_M_levels_29 : decode Y_M_levels.2.1 29 = .ok (.iconst 1, 1) := by decide +kernel
theorem d_M_levels_30 : decode Y_M_levels.2.1 30 = .ok (.isub, 1) := by decide +kernel
theorem d_M_levels_31 : decode Y_M_levels.2.1 31 = .ok (.iadd, 1) := by decide +kernel
theorem d_M_levels_32 : decode Y_M_levels.2.1 32 = .ok (.istore_n 2, 1) := by decide +kernel
theorem d_M_levels_33 : decode Y_M_levels.2.1 33 = .ok (.iinc 3 1, 3) := by decide +kernel
theorem d_M_levels_36 : decode Y_M_levels.2.1 36 = .ok (.goto (-21), 3) := by decide +kernel
theorem d_M_levels_39 : decode Y_M_levels.2.1 39 = .ok (.iload_n 1, 1) := by decide +kernel
theorem d_M_levels_40 : decode Y_M_levels.2.1 40 = .ok (.iconst 1, 1) := by decide +kernel
theorem d_M_levels_41 : decode Y_M_levels.2.1 41 = .ok (.if_icmp .ne 5, 3) := by decide +kernel
theorem d_M_levels_44 : decode Y_M_levels.2.1 44 = .ok (.iload_n 2, 1) := by decide +kernel
theorem d_M_levels_45 : decode Y_M_levels.2.1 45 = .ok (.ireturn, 1) := by decide +kernel
theorem d_M_levels_46 : decode Y_M_levels.2.1 46 = .ok (.iload_n 2, 1) := by decide +kernel
theorem d_M_levels_47 : decode Y_M_levels.2.1 47 = .ok (.istore_n 3, 1) := by decide +kernel
theorem d_M_levels_48 : decode Y_M_levels.2.1 48 = .ok (.iconst 0, 1) := by decide +kernel
theorem d_M_levels_49 : decode Y_M_levels.2.1 49 = .ok (.istore 4, 2) := by decide +kernel
theorem d_M_levels_51 : decode Y_M_levels.2.1 51 = .ok (.iload 4, 2) := by decide +kernel
theorem d_M_levels_53 : decode Y_M_levels.2.1 53 = .ok (.aload_n 0, 1) := by decide +kernel
theorem d_M_levels_54 : decode Y_M_levels.2.1 54 = .ok (.invokevirtual 439, 3) := by decide +kernel
theorem d_M_levels_57 : decode Y_M_levels.2.1 57 = .ok (.if_icmp .ge 35, 3) := by decide +kernel
theorem d_M_levels_60 : decode Y_M_levels.2.1 60 = .ok (.aload_n 0, 1) := by decide +kernel
theorem d_M_levels_61 : decode Y_M_levels.2.1 61 = .ok (.iload 4, 2) := by decide +kernel
theorem d_M_levels_63 : decode Y_M_levels.2.1 63 = .ok (.invokevirtual 442, 3) := by decide +kernel
theorem d_M_levels_66 : decode Y_M_levels.2.1 66 = .ok (.aload_n 0, 1) := by decide +kernel
theorem d_M_levels_67 : decode Y_M_levels.2.1 67 = .ok (.invokevirtual 446, 3) := by decide +kernel
theorem d_M_levels_70 : decode Y_M_levels.2.1 70 = .ok (.iload_n 3, 1) := by decide +kernel
theorem d_M_levels_71 : decode Y_M_levels.2.1 71 = .ok (.if_icmp .ge 15, 3) := by decide +kernel
theorem d_M_levels_74 : decode Y_M_levels.2.1 74 = .ok (.aload_n 0, 1) := by decide +kernel
theorem d_M_levels_75 : decode Y_M_levels.2.1 75 = .ok (.invokevirtual 449, 3) := by decide +kernel
theorem d_M_levels_78 : decode Y_M_levels.2.1 78 = .ok (.ifCond .eq 8, 3) := by decide +kernel
theorem d_M_levels_81 : decode Y_M_levels.2.1 81 = .ok (.aload_n 0, 1) := by decide +kernel
theorem d_M_levels_82 : decode Y_M_levels.2.1 82 = .ok (.invokevirtual 446, 3) := by decide +kernel
theorem d_M_levels_85 : decode Y_M_levels.2.1 85 = .ok (.istore_n 3, 1) := by decide +kernel
theorem d_M_levels_86 : decode Y_M_levels.2.1 86 = .ok (.iinc 4 1, 3) := by decide +kernel
theorem d_M_levels_89 : decode Y_M_levels.2.1 89 = .ok (.goto (-38), 3) := by decide +kernel
theorem d_M_levels_92 : decode Y_M_levels.2.1 92 = .ok (.iload_n 3, 1) := by decide +kernel
theorem d_M_levels_93 : decode Y_M_levels.2.1 93 = .ok (.ireturn, 1) := by decide +kernel
theorem e_M_levels {l : Launch} {G : GT} {d : Nat} {P : Int → MM → Prop} {m : MM} (x1 : Int)  (H : wfM m → inR x1 → ∃ (e1 : Nat) (P2 : Int → MM → Prop), e1 < d ∧ CI l G Y_M_isIn e1 [.inl x1, .inl 0, .inl 1] m P2 ∧ (∀ z7 m8, P2 z7 m8 → inR z7 → wfM m8 → ((z7 ≠ 0 → (Wq l G false Y_M_levels d (QI P) 15 [(0, .inr (.inr 70)), (1, .inl x1), (2, .inl 0), (3, .inl 0)] [] m8)) ∧ (¬ (z7 ≠ 0) → (P (-1) m8))))) : CI l G Y_M_levels d [.inr (.inr 70), .inl x1] m P := by
  refine CI.of [(0, .inr (.inr 70)), (1, .inl x1)] k_M_levels.1 (Nat.le_of_ble_eq_true rfl) rfl (Wp.wf (fun hw _ hl hs => ?_))
  have H0 := H hw (hl _ (List.mem_of_getElem? (i := 1) rfl))
  refine Wp.iload_n 1 1 d_M_levels_0 rfl rfl ?_
  refine Wp.iconst d_M_levels_1 (by decide) ?_
  refine Wp.iconst d_M_levels_2 (by decide) ?_
  obtain ⟨e1, P2, hd3, ho4, H5⟩ := H0
  refine Wq.SI (st := []) [.inl x1, .inl 0, .inl 1] d_M_levels_3 k_M_isIn ml_M_341 rfl  (fun h => by cases h) (Nat.le_of_ble_eq_true rfl) hd3 ho4 (fun z7 m8 hp9 hz10 hw11 => ?_)
  have H6 := H5 z7 m8 hp9 hz10 hw11
  obtain ⟨H13, H14⟩ := H6
  refine Wp.if_ne 11 d_M_levels_6 (by decide) (fun c12 => ?_) (fun c12 => ?_)
  · have H15 := H13 c12
    refine Wp.iconst d_M_levels_11 (by decide) ?_
    refine Wp.istore_n 2 [(0, .inr (.inr 70)), (1, .inl x1), (2, .inl 0)] d_M_levels_12 rfl (by decide) rfl ?_
    refine Wp.iconst d_M_levels_13 (by decide) ?_
    refine Wp.istore_n 3 [(0, .inr (.inr 70)), (1, .inl x1), (2, .inl 0), (3, .inl 0)] d_M_levels_14 rfl (by decide) rfl ?_
    exact H15
  · have H16 := H14 c12
    refine Wp.iconst d_M_levels_9 (by decide) ?_
    exact Wq.iret d_M_levels_10 rfl H16
theorem s_M_levels_15 {l : Launch} {G : GT} {d : Nat} {P : Int → MM → Prop} {m : MM} (x1 : Int) (x2 : Int) (x3 : Int)  (H : wfM m → inR x1 → inR x2 → inR x3 → ∃ (e1 : Nat) (P2 : Int → MM → Prop), e1 < d ∧ CI l G Y_M_lots e1 [.inr (.inr 70)] m P2 ∧ (∀ z7 m8, P2 z7 m8 → inR z7 → wfM m8 → ((x3 ≥ z7 → ((x1 ≠ 1 → (Wq l G false Y_M_levels d (QI P) 51 [(0, .inr (.inr 70)), (3, .inl x2), (4, .inl 0)] [] m8)) ∧ (¬ (x1 ≠ 1) → (P x2 m8)))) ∧ (¬ (x3 ≥ z7) → (∃ (e22 : Nat) (P23 : Int → MM → Prop), e22 < d ∧ CI l G Y_M_brimOf e22 [.inr (.inr 70), .inl x3] m8 P23 ∧ (∀ z28 m29, P23 z28 m29 → inR z28 → wfM m29 → ((inR (z28 - 1)) ∧ ((inR (x2 + (z28 - 1))) ∧ ((inR (x3 + 1)) ∧ (Wq l G false Y_M_levels d (QI P) 15 [(0, .inr (.inr 70)), (1, .inl x1), (2, .inl (x2 + (z28 - 1))), (3, .inl (x3 + 1))] [] m29)))))))))) : Wq l G false Y_M_levels d (QI P) 15 [(0, .inr (.inr 70)), (1, .inl x1), (2, .inl x2), (3, .inl x3)] [] m := by
  refine Wp.wf (fun hw _ hl hs => ?_)
  have H0 := H hw (hl _ (List.mem_of_getElem? (i := 1) rfl)) (hl _ (List.mem_of_getElem? (i := 2) rfl)) (hl _ (List.mem_of_getElem? (i := 3) rfl))
  refine Wp.iload_n 3 3 d_M_levels_15 rfl rfl ?_
  refine Wp.aload_n 0 0 d_M_levels_16 rfl rfl ?_
  obtain ⟨e1, P2, hd3, ho4, H5⟩ := H0
  refine Wq.VI (st := [.inl x3]) [] d_M_levels_17 k_M_lots ml_M_338 rfl rfl rfl (fun h => by cases h) (Nat.le_of_ble_eq_true rfl) hd3 ho4 (fun z7 m8 hp9 hz10 hw11 => ?_)
  have H6 := H5 z7 m8 hp9 hz10 hw11
  obtain ⟨H13, H14⟩ := H6
  refine Wp.icmp_ge 39 d_M_levels_20 (by decide) (fun c12 => ?_) (fun c12 => ?_)
  · have H15 := H13 c12
    refine Wp.iload_n 1 1 d_M_levels_39 rfl rfl ?_
    refine Wp.iconst d_M_levels_40 (by decide) ?_
    obtain ⟨H18, H19⟩ := H15
    refine Wp.icmp_ne 46 d_M_levels_41 (by decide) (fun c17 => ?_) (fun c17 => ?_)
    · have H20 := H18 c17
      refine Wp.iload_n 2 2 d_M_levels_46 rfl rfl ?_
      refine Wp.istore_n 3 [(0, .inr (.inr 70)), (1, .inl x1), (2, .inl x2), (3, .inl x2)] d_M_levels_47 rfl (by decide) rfl ?_
      refine Wp.iconst d_M_levels_48 (by decide) ?_
      refine Wp.istore 4 [(0, .inr (.inr 70)), (1, .inl x1), (2, .inl x2), (3, .inl x2), (4, .inl 0)] d_M_levels_49 (by decide) rfl ?_
      refine Wp.pick [0, 3, 4] [(0, .inr (.inr 70)), (3, .inl x2), (4, .inl 0)] rfl ?_
      exact H20
    · have H21 := H19 c17
      refine Wp.iload_n 2 2 d_M_levels_44 rfl rfl ?_
      exact Wq.iret d_M_levels_45 rfl H21
  · have H16 := H14 c12
    refine Wp.iload_n 2 2 d_M_levels_23 rfl rfl ?_
    refine Wp.aload_n 0 0 d_M_levels_24 rfl rfl ?_
    refine Wp.iload_n 3 3 d_M_levels_25 rfl rfl ?_
    obtain ⟨e22, P23, hd24, ho25, H26⟩ := H16
    refine Wq.VI (st := [.inl x2]) [.inl x3] d_M_levels_26 k_M_brimOf ml_M_328 rfl rfl rfl (fun h => by cases h) (Nat.le_of_ble_eq_true rfl) hd24 ho25 (fun z28 m29 hp30 hz31 hw32 => ?_)
    have H27 := H26 z28 m29 hp30 hz31 hw32
    refine Wp.iconst d_M_levels_29 (by decide) ?_
    obtain ⟨s33, H34⟩ := H27
    refine Wp.isub d_M_levels_30 s33 ?_
    obtain ⟨s35, H36⟩ := H34
    refine Wp.iadd d_M_levels_31 s35 ?_
    refine Wp.istore_n 2 [(0, .inr (.inr 70)), (1, .inl x1), (2, .inl (x2 + (z28 - 1))), (3, .inl x3)] d_M_levels_32 rfl (by decide) rfl ?_
    obtain ⟨s37, H38⟩ := H36
    refine Wp.iinc 3 3 [(0, .inr (.inr 70)), (1, .inl x1), (2, .inl (x2 + (z28 - 1))), (3, .inl (x3 + 1))] d_M_levels_33 rfl s37 (by decide) rfl ?_
    refine Wp.goto 15 d_M_levels_36 (by decide) ?_
    exact H38
theorem s_M_levels_51 {l : Launch} {G : GT} {d : Nat} {P : Int → MM → Prop} {m : MM} (x3 : Int) (x4 : Int)  (H : wfM m → inR x3 → inR x4 → ∃ (e1 : Nat) (P2 : Int → MM → Prop), e1 < d ∧ CI l G Y_M_settledMany e1 [.inr (.inr 70)] m P2 ∧ (∀ z7 m8, P2 z7 m8 → inR z7 → wfM m8 → ((x4 ≥ z7 → (P x3 m8)) ∧ (¬ (x4 ≥ z7) → (∃ (e17 : Nat) (P18 : MM → Prop), e17 < d ∧ CV l G Y_M_laySettled e17 [.inr (.inr 70), .inl x4] m8 P18 ∧ (∀ m24, P18 m24 → wfM m24 → (∃ (e28 : Nat) (P29 : Int → MM → Prop), e28 < d ∧ CI l G Y_M_levelOf e28 [.inr (.inr 70)] m24 P29 ∧ (∀ z34 m35, P29 z34 m35 → inR z34 → wfM m35 → ((z34 ≥ x3 → ((inR (x4 + 1)) ∧ (Wq l G false Y_M_levels d (QI P) 51 [(0, .inr (.inr 70)), (3, .inl x3), (4, .inl (x4 + 1))] [] m35))) ∧ (¬ (z34 ≥ x3) → (∃ (e46 : Nat) (P47 : Int → MM → Prop), e46 < d ∧ CI l G Y_M_comesAgain e46 [.inr (.inr 70)] m35 P47 ∧ (∀ z52 m53, P47 z52 m53 → inR z52 → wfM m53 → ((z52 = 0 → ((inR (x4 + 1)) ∧ (Wq l G false Y_M_levels d (QI P) 51 [(0, .inr (.inr 70)), (3, .inl x3), (4, .inl (x4 + 1))] [] m53))) ∧ (¬ (z52 = 0) → (∃ (e64 : Nat) (P65 : Int → MM → Prop), e64 < d ∧ CI l G Y_M_levelOf e64 [.inr (.inr 70)] m53 P65 ∧ (∀ z70 m71, P65 z70 m71 → inR z70 → wfM m71 → ((inR (x4 + 1)) ∧ (Wq l G false Y_M_levels d (QI P) 51 [(0, .inr (.inr 70)), (3, .inl z70), (4, .inl (x4 + 1))] [] m71)))))))))))))))))) : Wq l G false Y_M_levels d (QI P) 51 [(0, .inr (.inr 70)), (3, .inl x3), (4, .inl x4)] [] m := by
  refine Wp.wf (fun hw _ hl hs => ?_)
  have H0 := H hw (hl _ (List.mem_of_getElem? (i := 1) rfl)) (hl _ (List.mem_of_getElem? (i := 2) rfl))
  refine Wp.iload 2 4 d_M_levels_51 rfl ?_
  refine Wp.aload_n 0 0 d_M_levels_53 rfl rfl ?_
  obtain ⟨e1, P2, hd3, ho4, H5⟩ := H0
  refine Wq.VI (st := [.inl x4]) [] d_M_levels_54 k_M_settledMany ml_M_439 rfl rfl rfl (fun h => by cases h) (Nat.le_of_ble_eq_true rfl) hd3 ho4 (fun z7 m8 hp9 hz10 hw11 => ?_)
  have H6 := H5 z7 m8 hp9 hz10 hw11
  obtain ⟨H13, H14⟩ := H6
  refine Wp.icmp_ge 92 d_M_levels_57 (by decide) (fun c12 => ?_) (fun c12 => ?_)
  · have H15 := H13 c12
    refine Wp.iload_n 1 3 d_M_levels_92 rfl rfl ?_
    exact Wq.iret d_M_levels_93 rfl H15
  · have H16 := H14 c12
    refine Wp.aload_n 0 0 d_M_levels_60 rfl rfl ?_
    refine Wp.iload 2 4 d_M_levels_61 rfl ?_
    obtain ⟨e17, P18, hd19, ho20, H21⟩ := H16
    refine Wq.VV (st := []) [.inl x4] d_M_levels_63 k_M_laySettled ml_M_442 rfl rfl rfl (fun h => by cases h) (Nat.le_of_ble_eq_true rfl) hd19 ho20 (fun m24 hp25 hw27 => ?_)
    have H22 := H21 m24 hp25 hw27
    refine Wp.aload_n 0 0 d_M_levels_66 rfl rfl ?_
    obtain ⟨e28, P29, hd30, ho31, H32⟩ := H22
    refine Wq.VI (st := []) [] d_M_levels_67 k_M_levelOf ml_M_446 rfl rfl rfl (fun h => by cases h) (Nat.le_of_ble_eq_true rfl) hd30 ho31 (fun z34 m35 hp36 hz37 hw38 => ?_)
    have H33 := H32 z34 m35 hp36 hz37 hw38
    refine Wp.iload_n 1 3 d_M_levels_70 rfl rfl ?_
    obtain ⟨H40, H41⟩ := H33
    refine Wp.icmp_ge 86 d_M_levels_71 (by decide) (fun c39 => ?_) (fun c39 => ?_)
    · have H42 := H40 c39
      obtain ⟨s44, H45⟩ := H42
      refine Wp.iinc 2 4 [(0, .inr (.inr 70)), (3, .inl x3), (4, .inl (x4 + 1))] d_M_levels_86 rfl s44 (by decide) rfl ?_
      refine Wp.goto 51 d_M_levels_89 (by decide) ?_
      exact H45
    · have H43 := H41 c39
      refine Wp.aload_n 0 0 d_M_levels_74 rfl rfl ?_
      obtain ⟨e46, P47, hd48, ho49, H50⟩ := H43
      refine Wq.VI (st := []) [] d_M_levels_75 k_M_comesAgain ml_M_449 rfl rfl rfl (fun h => by cases h) (Nat.le_of_ble_eq_true rfl) hd48 ho49 (fun z52 m53 hp54 hz55 hw56 => ?_)
      have H51 := H50 z52 m53 hp54 hz55 hw56
      obtain ⟨H58, H59⟩ := H51
      refine Wp.if_eq 86 d_M_levels_78 (by decide) (fun c57 => ?_) (fun c57 => ?_)
      · have H60 := H58 c57
        obtain ⟨s62, H63⟩ := H60
        refine Wp.iinc 2 4 [(0, .inr (.inr 70)), (3, .inl x3), (4, .inl (x4 + 1))] d_M_levels_86 rfl s62 (by decide) rfl ?_
        refine Wp.goto 51 d_M_levels_89 (by decide) ?_
        exact H63
      · have H61 := H59 c57
        refine Wp.aload_n 0 0 d_M_levels_81 rfl rfl ?_
        obtain ⟨e64, P65, hd66, ho67, H68⟩ := H61
        refine Wq.VI (st := []) [] d_M_levels_82 k_M_levelOf ml_M_446 rfl rfl rfl (fun h => by cases h) (Nat.le_of_ble_eq_true rfl) hd66 ho67 (fun z70 m71 hp72 hz73 hw74 => ?_)
        have H69 := H68 z70 m71 hp72 hz73 hw74
        refine Wp.istore_n 3 [(0, .inr (.inr 70)), (3, .inl z70), (4, .inl x4)] d_M_levels_85 rfl (by decide) rfl ?_
        obtain ⟨s75, H76⟩ := H69
        refine Wp.iinc 2 4 [(0, .inr (.inr 70)), (3, .inl z70), (4, .inl (x4 + 1))] d_M_levels_86 rfl s75 (by decide) rfl ?_
        refine Wp.goto 51 d_M_levels_89 (by decide) ?_
        exact H76
theorem d_M_mend_0 : decode Y_M_mend.2.1 0 = .ok (.aload_n 0, 1) := by decide +kernel
theorem d_M_mend_1 : decode Y_M_mend.2.1 1 = .ok (.invokevirtual 411, 3) := by decide +kernel
theorem d_M_mend_4 : decode Y_M_mend.2.1 4 = .ok (.iconst 0, 1) := by decide +kernel
theorem d_M_mend_5 : decode Y_M_mend.2.1 5 = .ok (.istore_n 1, 1) := by decide +kernel
theorem d_M_mend_6 : decode Y_M_mend.2.1 6 = .ok (.iload_n 1, 1) := by decide +kernel
theorem d_M_mend_7 : decode Y_M_mend.2.1 7 = .ok (.aload_n 0, 1) := by decide +kernel
theorem d_M_mend_8 : decode Y_M_mend.2.1 8 = .ok (.invokevirtual 338, 3) := by decide +kernel
theorem d_M_mend_11 : decode Y_M_mend.2.1 11 = .ok (.if_icmp .ge 21, 3) := by decide +kernel
theorem d_M_mend_14 : decode Y_M_mend.2.1 14 = .ok (.aload_n 0, 1) := by decide +kernel
theorem d_M_mend_15 : decode Y_M_mend.2.1 15 = .ok (.getfield 97, 3) := by decide +kernel
theorem d_M_mend_18 : decode Y_M_mend.2.1 18 = .ok (.iload_n 1, 1) := by decide +kernel
theorem d_M_mend_19 : decode Y_M_mend.2.1 19 = .ok (.aload_n 0, 1) := by decide +kernel
theorem d_M_mend_20 : decode Y_M_mend.2.1 20 = .ok (.getfield 82, 3) := by decide +kernel
theorem d_M_mend_23 : decode Y_M_mend.2.1 23 = .ok (.iload_n 1, 1) := by decide +kernel
theorem d_M_mend_24 : decode Y_M_mend.2.1 24 = .ok (.iaload, 1) := by decide +kernel
theorem d_M_mend_25 : decode Y_M_mend.2.1 25 = .ok (.iastore, 1) := by decide +kernel
theorem d_M_mend_26 : decode Y_M_mend.2.1 26 = .ok (.iinc 1 1, 3) := by decide +kernel
theorem d_M_mend_29 : decode Y_M_mend.2.1 29 = .ok (.goto (-23), 3) := by decide +kernel
theorem d_M_mend_32 : decode Y_M_mend.2.1 32 = .ok (.iconst (-1), 1) := by decide +kernel
theorem d_M_mend_33 : decode Y_M_mend.2.1 33 = .ok (.istore_n 1, 1) := by decide +kernel
theorem d_M_mend_34 : decode Y_M_mend.2.1 34 = .ok (.ldc_w 452, 3) := by decide +kernel
theorem d_M_mend_37 : decode Y_M_mend.2.1 37 = .ok (.istore_n 2, 1) := by decide +kernel
theorem d_M_mend_38 : decode Y_M_mend.2.1 38 = .ok (.iconst 0, 1) := by decide +kernel
theorem d_M_mend_39 : decode Y_M_mend.2.1 39 = .ok (.istore_n 3, 1) := by decide +kernel
theorem d_M_mend_40 : decode Y_M_mend.2.1 40 = .ok (.iload_n 3, 1) := by decide +kernel
theorem d_M_mend_41 : decode Y_M_mend.2.1 41 = .ok (.aload_n 0, 1) := by decide +kernel
theorem d_M_mend_42 : decode Y_M_mend.2.1 42 = .ok (.invokevirtual 439, 3) := by decide +kernel
theorem d_M_mend_45 : decode Y_M_mend.2.1 45 = .ok (.if_icmp .ge 113, 3) := by decide +kernel
theorem d_M_mend_48 : decode Y_M_mend.2.1 48 = .ok (.aload_n 0, 1) := by decide +kernel
theorem d_M_mend_49 : decode Y_M_mend.2.1 49 = .ok (.iload_n 3, 1) := by decide +kernel
theorem d_M_mend_50 : decode Y_M_mend.2.1 50 = .ok (.invokevirtual 442, 3) := by decide +kernel
theorem d_M_mend_53 : decode Y_M_mend.2.1 53 = .ok (.iconst 1, 1) := by decide +kernel
theorem d_M_mend_54 : decode Y_M_mend.2.1 54 = .ok (.istore 4, 2) := by decide +kernel
theorem d_M_mend_56 : decode Y_M_mend.2.1 56 = .ok (.iconst 0, 1) := by decide +kernel
theorem d_M_mend_57 : decode Y_M_mend.2.1 57 = .ok (.istore 5, 2) := by decide +kernel
theorem d_M_mend_59 : decode Y_M_mend.2.1 59 = .ok (.iconst 0, 1) := by decide +kernel
theorem d_M_mend_60 : decode Y_M_mend.2.1 60 = .ok (.istore 6, 2) := by decide +kernel
theorem d_M_mend_62 : decode Y_M_mend.2.1 62 = .ok (.iload 6, 2) := by decide +kernel
theorem d_M_mend_64 : decode Y_M_mend.2.1 64 = .ok (.aload_n 0, 1) := by decide +kernel
theorem d_M_mend_65 : decode Y_M_mend.2.1 65 = .ok (.invokevirtual 338, 3) := by decide +kernel
theorem d_M_mend_68 : decode Y_M_mend.2.1 68 = .ok (.if_icmp .ge 58, 3) := by decide +kernel
theorem d_M_mend_71 : decode Y_M_mend.2.1 71 = .ok (.iload 4, 2) := by decide +kernel
theorem d_M_mend_73 : decode Y_M_mend.2.1 73 = .ok (.ifCond .eq 53, 3) := by decide +kernel
theorem d_M_mend_76 : decode Y_M_mend.2.1 76 = .ok (.aload_n 0, 1) := by decide +kernel
theorem d_M_mend_77 : decode Y_M_mend.2.1 77 = .ok (.getfield 82, 3) := by decide +kernel
theorem d_M_mend_80 : decode Y_M_mend.2.1 80 = .ok (.iload 6, 2) := by decide +kernel
theorem d_M_mend_82 : decode Y_M_mend.2.1 82 = .ok (.iaload, 1) := by decide +kernel
theorem d_M_mend_83 : decode Y_M_mend.2.1 83 = .ok (.aload_n 0, 1) := by decide +kernel
theorem d_M_mend_84 : decode Y_M_mend.2.1 84 = .ok (.getfield 97, 3) := by decide +kernel
theorem d_M_mend_87 : decode Y_M_mend.2.1 87 = .ok (.iload 6, 2) := by decide +kernel
theorem d_M_mend_89 : decode Y_M_mend.2.1 89 = .ok (.iaload, 1) := by decide +kernel
theorem d_M_mend_90 : decode Y_M_mend.2.1 90 = .ok (.if_icmp .lt 7, 3) := by decide +kernel
theorem d_M_mend_93 : decode Y_M_mend.2.1 93 = .ok (.iconst 1, 1) := by decide +kernel
theorem d_M_mend_94 : decode Y_M_mend.2.1 94 = .ok (.goto 4, 3) := by decide +kernel
theorem d_M_mend_97 : decode Y_M_mend.2.1 97 = .ok (.iconst 0, 1) := by decide +kernel
theorem d_M_mend_98 : decode Y_M_mend.2.1 98 = .ok (.istore 4, 2) := by decide +kernel
theorem d_M_mend_100 : decode Y_M_mend.2.1 100 = .ok (.iload 5, 2) := by decide +kernel
theorem d_M_mend_102 : decode Y_M_mend.2.1 102 = .ok (.aload_n 0, 1) := by decide +kernel
theorem d_M_mend_103 : decode Y_M_mend.2.1 103 = .ok (.getfield 82, 3) := by decide +kernel
theorem d_M_mend_106 : decode Y_M_mend.2.1 106 = .ok (.iload 6, 2) := by decide +kernel
theorem d_M_mend_108 : decode Y_M_mend.2.1 108 = .ok (.iaload, 1) := by decide +kernel
theorem d_M_mend_109 : decode Y_M_mend.2.1 109 = .ok (.aload_n 0, 1) := by decide +kernel
theorem d_M_mend_110 : decode Y_M_mend.2.1 110 = .ok (.getfield 97, 3) := by decide +kernel
theorem d_M_mend_113 : decode Y_M_mend.2.1 113 = .ok (.iload 6, 2) := by decide +kernel
theorem d_M_mend_115 : decode Y_M_mend.2.1 115 = .ok (.iaload, 1) := by decide +kernel
theorem d_M_mend_116 : decode Y_M_mend.2.1 116 = .ok (.isub, 1) := by decide +kernel
theorem d_M_mend_117 : decode Y_M_mend.2.1 117 = .ok (.iadd, 1) := by decide +kernel
theorem d_M_mend_118 : decode Y_M_mend.2.1 118 = .ok (.istore 5, 2) := by decide +kernel
theorem d_M_mend_120 : decode Y_M_mend.2.1 120 = .ok (.iinc 6 1, 3) := by decide +kernel
theorem d_M_mend_123 : decode Y_M_mend.2.1 123 = .ok (.goto (-61), 3) := by decide +kernel
theorem d_M_mend_126 : decode Y_M_mend.2.1 126 = .ok (.iload 4, 2) := by decide +kernel
theorem d_M_mend_128 : decode Y_M_mend.2.1 128 = .ok (.ifCond .eq 24, 3) := by decide +kernel
theorem d_M_mend_131 : decode Y_M_mend.2.1 131 = .ok (.iload 5, 2) := by decide +kernel
theorem d_M_mend_133 : decode Y_M_mend.2.1 133 = .ok (.iload_n 2, 1) := by decide +kernel
theorem d_M_mend_134 : decode Y_M_mend.2.1 134 = .ok (.if_icmp .ge 18, 3) := by decide +kernel
theorem d_M_mend_137 : decode Y_M_mend.2.1 137 = .ok (.aload_n 0, 1) := by decide +kernel
theorem d_M_mend_138 : decode Y_M_mend.2.1 138 = .ok (.invokevirtual 449, 3) := by decide +kernel
theorem d_M_mend_141 : decode Y_M_mend.2.1 141 = .ok (.ifCond .ne 6, 3) := by decide +kernel
theorem d_M_mend_144 : decode Y_M_mend.2.1 144 = .ok (.goto 8, 3) := by decide +kernel
theorem d_M_mend_147 : decode Y_M_mend.2.1 147 = .ok (.iload_n 3, 1) := by decide +kernel
theorem d_M_mend_148 : decode Y_M_mend.2.1 148 = .ok (.istore_n 1, 1) := by decide +kernel
theorem d_M_mend_149 : decode Y_M_mend.2.1 149 = .ok (.iload 5, 2) := by decide +kernel
theorem d_M_mend_151 : decode Y_M_mend.2.1 151 = .ok (.istore_n 2, 1) := by decide +kernel
theorem d_M_mend_152 : decode Y_M_mend.2.1 152 = .ok (.iinc 3 1, 3) := by decide +kernel
theorem d_M_mend_155 : decode Y_M_mend.2.1 155 = .ok (.goto (-115), 3) := by decide +kernel
theorem d_M_mend_158 : decode Y_M_mend.2.1 158 = .ok (.aload_n 0, 1) := by decide +kernel
theorem d_M_mend_159 : decode Y_M_mend.2.1 159 = .ok (.iload_n 1, 1) := by decide +kernel
theorem d_M_mend_160 : decode Y_M_mend.2.1 160 = .ok (.invokevirtual 442, 3) := by decide +kernel
theorem d_M_mend_163 : decode Y_M_mend.2.1 163 = .ok (.iconst 0, 1) := by decide +kernel
theorem d_M_mend_164 : decode Y_M_mend.2.1 164 = .ok (.istore_n 3, 1) := by decide +kernel
theorem d_M_mend_165 : decode Y_M_mend.2.1 165 = .ok (.iload_n 3, 1) := by decide +kernel
theorem d_M_mend_166 : decode Y_M_mend.2.1 166 = .ok (.aload_n 0, 1) := by decide +kernel
theorem d_M_mend_167 : decode Y_M_mend.2.1 167 = .ok (.invokevirtual 338, 3) := by decide +kernel
theorem d_M_mend_170 : decode Y_M_mend.2.1 170 = .ok (.if_icmp .ge 28, 3) := by decide +kernel
theorem d_M_mend_173 : decode Y_M_mend.2.1 173 = .ok (.aload_n 0, 1) := by decide +kernel
theorem d_M_mend_174 : decode Y_M_mend.2.1 174 = .ok (.getfield 94, 3) := by decide +kernel
theorem d_M_mend_177 : decode Y_M_mend.2.1 177 = .ok (.iload_n 3, 1) := by decide +kernel
theorem d_M_mend_178 : decode Y_M_mend.2.1 178 = .ok (.aload_n 0, 1) := by decide +kernel
theorem d_M_mend_179 : decode Y_M_mend.2.1 179 = .ok (.getfield 82, 3) := by decide +kernel
theorem d_M_mend_182 : decode Y_M_mend.2.1 182 = .ok (.iload_n 3, 1) := by decide +kernel
theorem d_M_mend_183 : decode Y_M_mend.2.1 183 = .ok (.iaload, 1) := by decide +kernel
theorem d_M_mend_184 : decode Y_M_mend.2.1 184 = .ok (.aload_n 0, 1) := by decide +kernel
theorem d_M_mend_185 : decode Y_M_mend.2.1 185 = .ok (.getfield 97, 3) := by decide +kernel
theorem d_M_mend_188 : decode Y_M_mend.2.1 188 = .ok (.iload_n 3, 1) := by decide +kernel
theorem d_M_mend_189 : decode Y_M_mend.2.1 189 = .ok (.iaload, 1) := by decide +kernel
theorem d_M_mend_190 : decode Y_M_mend.2.1 190 = .ok (.isub, 1) := by decide +kernel
theorem d_M_mend_191 : decode Y_M_mend.2.1 191 = .ok (.iastore, 1) := by decide +kernel
theorem d_M_mend_192 : decode Y_M_mend.2.1 192 = .ok (.iinc 3 1, 3) := by decide +kernel
theorem d_M_mend_195 : decode Y_M_mend.2.1 195 = .ok (.goto (-30), 3) := by decide +kernel
theorem d_M_mend_198 : decode Y_M_mend.2.1 198 = .ok (.aload_n 0, 1) := by decide +kernel
theorem d_M_mend_199 : decode Y_M_mend.2.1 199 = .ok (.aload_n 0, 1) := by decide +kernel
theorem d_M_mend_200 : decode Y_M_mend.2.1 200 = .ok (.invokevirtual 338, 3) := by decide +kernel
theorem d_M_mend_203 : decode Y_M_mend.2.1 203 = .ok (.putfield 369, 3) := by decide +kernel
theorem d_M_mend_206 : decode Y_M_mend.2.1 206 = .ok (.iload_n 2, 1) := by decide +kernel
theorem d_M_mend_207 : decode Y_M_mend.2.1 207 = .ok (.ireturn, 1) := by decide +kernel
theorem e_M_mend {l : Launch} {G : GT} {d : Nat} {P : Int → MM → Prop} {m : MM}   (H : wfM m → ∃ (e1 : Nat) (P2 : MM → Prop), e1 < d ∧ CV l G Y_M_layRest e1 [.inr (.inr 70)] m P2 ∧ (∀ m8, P2 m8 → wfM m8 → (Wq l G false Y_M_mend d (QI P) 6 [(0, .inr (.inr 70)), (1, .inl 0)] [] m8))) : CI l G Y_M_mend d [.inr (.inr 70)] m P := by
  refine CI.of [(0, .inr (.inr 70))] k_M_mend.1 (Nat.le_of_ble_eq_true rfl) rfl (Wp.wf (fun hw _ hl hs => ?_))
  have H0 := H hw
  refine Wp.aload_n 0 0 d_M_mend_0 rfl rfl ?_
  obtain ⟨e1, P2, hd3, ho4, H5⟩ := H0
  refine Wq.VV (st := []) [] d_M_mend_1 k_M_layRest ml_M_411 rfl rfl rfl (fun h => by cases h) (Nat.le_of_ble_eq_true rfl) hd3 ho4 (fun m8 hp9 hw11 => ?_)
  have H6 := H5 m8 hp9 hw11
  refine Wp.iconst d_M_mend_4 (by decide) ?_
  refine Wp.istore_n 1 [(0, .inr (.inr 70)), (1, .inl 0)] d_M_mend_5 rfl (by decide) rfl ?_
  exact H6
theorem s_M_mend_6 {l : Launch} {G : GT} {d : Nat} {P : Int → MM → Prop} {m : MM} (x1 : Int)  (H : wfM m → inR x1 → ∃ (e1 : Nat) (P2 : Int → MM → Prop), e1 < d ∧ CI l G Y_M_lots e1 [.inr (.inr 70)] m P2 ∧ (∀ z7 m8, P2 z7 m8 → inR z7 → wfM m8 → ((x1 ≥ z7 → (Wq l G false Y_M_mend d (QI P) 40 [(0, .inr (.inr 70)), (1, .inl (-1)), (2, .inl 1000000), (3, .inl 0)] [] m8)) ∧ (¬ (x1 ≥ z7) → ((0 ≤ x1 ∧ x1 < (5 : Int)) ∧ ((0 ≤ x1 ∧ x1 < (5 : Int)) ∧ (∀ m19, m19 = up m8 98 x1 (m8 93 x1) → ((inR (x1 + 1)) ∧ (Wq l G false Y_M_mend d (QI P) 6 [(0, .inr (.inr 70)), (1, .inl (x1 + 1))] [] m19))))))))) : Wq l G false Y_M_mend d (QI P) 6 [(0, .inr (.inr 70)), (1, .inl x1)] [] m := by
  refine Wp.wf (fun hw _ hl hs => ?_)
  have H0 := H hw (hl _ (List.mem_of_getElem? (i := 1) rfl))
  refine Wp.iload_n 1 1 d_M_mend_6 rfl rfl ?_
  refine Wp.aload_n 0 0 d_M_mend_7 rfl rfl ?_
  obtain ⟨e1, P2, hd3, ho4, H5⟩ := H0
  refine Wq.VI (st := [.inl x1]) [] d_M_mend_8 k_M_lots ml_M_338 rfl rfl rfl (fun h => by cases h) (Nat.le_of_ble_eq_true rfl) hd3 ho4 (fun z7 m8 hp9 hz10 hw11 => ?_)
  have H6 := H5 z7 m8 hp9 hz10 hw11
  obtain ⟨H13, H14⟩ := H6
  refine Wp.icmp_ge 32 d_M_mend_11 (by decide) (fun c12 => ?_) (fun c12 => ?_)
  · have H15 := H13 c12
    refine Wp.iconst d_M_mend_32 (by decide) ?_
    refine Wp.istore_n 1 [(0, .inr (.inr 70)), (1, .inl (-1))] d_M_mend_33 rfl (by decide) rfl ?_
    refine Wp.ldcw (z := 1000000) d_M_mend_34 kc_M_452 (by decide) (by decide) ?_
    refine Wp.istore_n 2 [(0, .inr (.inr 70)), (1, .inl (-1)), (2, .inl 1000000)] d_M_mend_37 rfl (by decide) rfl ?_
    refine Wp.iconst d_M_mend_38 (by decide) ?_
    refine Wp.istore_n 3 [(0, .inr (.inr 70)), (1, .inl (-1)), (2, .inl 1000000), (3, .inl 0)] d_M_mend_39 rfl (by decide) rfl ?_
    exact H15
  · have H16 := H14 c12
    refine Wp.aload_n 0 0 d_M_mend_14 rfl rfl ?_
    refine Wp.getP 98 d_M_mend_15 fl_M_97 rfl rfl rfl ?_
    refine Wp.iload_n 1 1 d_M_mend_18 rfl rfl ?_
    refine Wp.aload_n 0 0 d_M_mend_19 rfl rfl ?_
    refine Wp.getP 93 d_M_mend_20 fl_M_82 rfl rfl rfl ?_
    refine Wp.iload_n 1 1 d_M_mend_23 rfl rfl ?_
    obtain ⟨s17, H18⟩ := H16
    refine Wp.iald d_M_mend_24 rfl (Or.inl rfl) s17.1 s17.2 ?_
    obtain ⟨s26, H27⟩ := H18
    refine Wq.iast d_M_mend_25 rfl s26.1 s26.2 (fun m19 hm20 => ?_)
    have H21 := H27 m19 hm20
    obtain ⟨s24, H25⟩ := H21
    refine Wp.iinc 1 1 [(0, .inr (.inr 70)), (1, .inl (x1 + 1))] d_M_mend_26 rfl s24 (by decide) rfl ?_
    refine Wp.goto 6 d_M_mend_29 (by decide) ?_
    exact H25
theorem s_M_mend_40 {l : Launch} {G : GT} {d : Nat} {P : Int → MM → Prop} {m : MM} (x1 : Int) (x2 : Int) (x3 : Int)  (H : wfM m → inR x1 → inR x2 → inR x3 → ∃ (e1 : Nat) (P2 : Int → MM → Prop), e1 < d ∧ CI l G Y_M_settledMany e1 [.inr (.inr 70)] m P2 ∧ (∀ z7 m8, P2 z7 m8 → inR z7 → wfM m8 → ((x3 ≥ z7 → (∃ (e17 : Nat) (P18 : MM → Prop), e17 < d ∧ CV l G Y_M_laySettled e17 [.inr (.inr 70), .inl x1] m8 P18 ∧ (∀ m24, P18 m24 → wfM m24 → (Wq l G false Y_M_mend d (QI P) 165 [(0, .inr (.inr 70)), (2, .inl x2), (3, .inl 0)] [] m24)))) ∧ (¬ (x3 ≥ z7) → (∃ (e28 : Nat) (P29 : MM → Prop), e28 < d ∧ CV l G Y_M_laySettled e28 [.inr (.inr 70), .inl x3] m8 P29 ∧ (∀ m35, P29 m35 → wfM m35 → (Wq l G false Y_M_mend d (QI P) 62 [(0, .inr (.inr 70)), (1, .inl x1), (2, .inl x2), (3, .inl x3), (4, .inl 1), (5, .inl 0), (6, .inl 0)] [] m35))))))) : Wq l G false Y_M_mend d (QI P) 40 [(0, .inr (.inr 70)), (1, .inl x1), (2, .inl x2), (3, .inl x3)] [] m := by
  refine Wp.wf (fun hw _ hl hs => ?_)
  have H0 := H hw (hl _ (List.mem_of_getElem? (i := 1) rfl)) (hl _ (List.mem_of_getElem? (i := 2) rfl)) (hl _ (List.mem_of_getElem? (i := 3) rfl))
  refine Wp.iload_n 3 3 d_M_mend_40 rfl rfl ?_
  refine Wp.aload_n 0 0 d_M_mend_41 rfl rfl ?_
  obtain ⟨e1, P2, hd3, ho4, H5⟩ := H0
  refine Wq.VI (st := [.inl x3]) [] d_M_mend_42 k_M_settledMany ml_M_439 rfl rfl rfl (fun h => by cases h) (Nat.le_of_ble_eq_true rfl) hd3 ho4 (fun z7 m8 hp9 hz10 hw11 => ?_)
  have H6 := H5 z7 m8 hp9 hz10 hw11
  obtain ⟨H13, H14⟩ := H6
  refine Wp.icmp_ge 158 d_M_mend_45 (by decide) (fun c12 => ?_) (fun c12 => ?_)
  · have H15 := H13 c12
    refine Wp.aload_n 0 0 d_M_mend_158 rfl rfl ?_
    refine Wp.iload_n 1 1 d_M_mend_159 rfl rfl ?_
    obtain ⟨e17, P18, hd19, ho20, H21⟩ := H15
    refine Wq.VV (st := []) [.inl x1] d_M_mend_160 k_M_laySettled ml_M_442 rfl rfl rfl (fun h => by cases h) (Nat.le_of_ble_eq_true rfl) hd19 ho20 (fun m24 hp25 hw27 => ?_)
    have H22 := H21 m24 hp25 hw27
    refine Wp.iconst d_M_mend_163 (by decide) ?_
    refine Wp.istore_n 3 [(0, .inr (.inr 70)), (1, .inl x1), (2, .inl x2), (3, .inl 0)] d_M_mend_164 rfl (by decide) rfl ?_
    refine Wp.pick [0, 2, 3] [(0, .inr (.inr 70)), (2, .inl x2), (3, .inl 0)] rfl ?_
    exact H22
  · have H16 := H14 c12
    refine Wp.aload_n 0 0 d_M_mend_48 rfl rfl ?_
    refine Wp.iload_n 3 3 d_M_mend_49 rfl rfl ?_
    obtain ⟨e28, P29, hd30, ho31, H32⟩ := H16
    refine Wq.VV (st := []) [.inl x3] d_M_mend_50 k_M_laySettled ml_M_442 rfl rfl rfl (fun h => by cases h) (Nat.le_of_ble_eq_true rfl) hd30 ho31 (fun m35 hp36 hw38 => ?_)
    have H33 := H32 m35 hp36 hw38
    refine Wp.iconst d_M_mend_53 (by decide) ?_
    refine Wp.istore 4 [(0, .inr (.inr 70)), (1, .inl x1), (2, .inl x2), (3, .inl x3), (4, .inl 1)] d_M_mend_54 (by decide) rfl ?_
    refine Wp.iconst d_M_mend_56 (by decide) ?_
    refine Wp.istore 5 [(0, .inr (.inr 70)), (1, .inl x1), (2, .inl x2), (3, .inl x3), (4, .inl 1), (5, .inl 0)] d_M_mend_57 (by decide) rfl ?_
    refine Wp.iconst d_M_mend_59 (by decide) ?_
    refine Wp.istore 6 [(0, .inr (.inr 70)), (1, .inl x1), (2, .inl x2), (3, .inl x3), (4, .inl 1), (5, .inl 0), (6, .inl 0)] d_M_mend_60 (by decide) rfl ?_
    exact H33
theorem s_M_mend_62 {l : Launch} {G : GT} {d : Nat} {P : Int → MM → Prop} {m : MM} (x1 : Int) (x2 : Int) (x3 : Int) (x4 : Int) (x5 : Int) (x6 : Int)  (H : wfM m → inR x1 → inR x2 → inR x3 → inR x4 → inR x5 → inR x6 → ∃ (e1 : Nat) (P2 : Int → MM → Prop), e1 < d ∧ CI l G Y_M_lots e1 [.inr (.inr 70)] m P2 ∧ (∀ z7 m8, P2 z7 m8 → inR z7 → wfM m8 → ((x6 ≥ z7 → ((x4 = 0 → ((inR (x3 + 1)) ∧ (Wq l G false Y_M_mend d (QI P) 40 [(0, .inr (.inr 70)), (1, .inl x1), (2, .inl x2), (3, .inl (x3 + 1))] [] m8))) ∧ (¬ (x4 = 0) → ((x5 ≥ x2 → ((inR (x3 + 1)) ∧ (Wq l G false Y_M_mend d (QI P) 40 [(0, .inr (.inr 70)), (1, .inl x1), (2, .inl x2), (3, .inl (x3 + 1))] [] m8))) ∧ (¬ (x5 ≥ x2) → (∃ (e31 : Nat) (P32 : Int → MM → Prop), e31 < d ∧ CI l G Y_M_comesAgain e31 [.inr (.inr 70)] m8 P32 ∧ (∀ z37 m38, P32 z37 m38 → inR z37 → wfM m38 → ((z37 ≠ 0 → ((inR (x3 + 1)) ∧ (Wq l G false Y_M_mend d (QI P) 40 [(0, .inr (.inr 70)), (1, .inl x3), (2, .inl x5), (3, .inl (x3 + 1))] [] m38))) ∧ (¬ (z37 ≠ 0) → ((inR (x3 + 1)) ∧ (Wq l G false Y_M_mend d (QI P) 40 [(0, .inr (.inr 70)), (1, .inl x1), (2, .inl x2), (3, .inl (x3 + 1))] [] m38))))))))))) ∧ (¬ (x6 ≥ z7) → ((x4 = 0 → ((x4 = 0 → ((inR (x3 + 1)) ∧ (Wq l G false Y_M_mend d (QI P) 40 [(0, .inr (.inr 70)), (1, .inl x1), (2, .inl x2), (3, .inl (x3 + 1))] [] m8))) ∧ (¬ (x4 = 0) → ((x5 ≥ x2 → ((inR (x3 + 1)) ∧ (Wq l G false Y_M_mend d (QI P) 40 [(0, .inr (.inr 70)), (1, .inl x1), (2, .inl x2), (3, .inl (x3 + 1))] [] m8))) ∧ (¬ (x5 ≥ x2) → (∃ (e70 : Nat) (P71 : Int → MM → Prop), e70 < d ∧ CI l G Y_M_comesAgain e70 [.inr (.inr 70)] m8 P71 ∧ (∀ z76 m77, P71 z76 m77 → inR z76 → wfM m77 → ((z76 ≠ 0 → ((inR (x3 + 1)) ∧ (Wq l G false Y_M_mend d (QI P) 40 [(0, .inr (.inr 70)), (1, .inl x3), (2, .inl x5), (3, .inl (x3 + 1))] [] m77))) ∧ (¬ (z76 ≠ 0) → ((inR (x3 + 1)) ∧ (Wq l G false Y_M_mend d (QI P) 40 [(0, .inr (.inr 70)), (1, .inl x1), (2, .inl x2), (3, .inl (x3 + 1))] [] m77))))))))))) ∧ (¬ (x4 = 0) → ((0 ≤ x6 ∧ x6 < (5 : Int)) ∧ ((0 ≤ x6 ∧ x6 < (5 : Int)) ∧ (((m8 93 x6) < (m8 98 x6) → ((0 ≤ x6 ∧ x6 < (5 : Int)) ∧ ((0 ≤ x6 ∧ x6 < (5 : Int)) ∧ ((inR ((m8 93 x6) - (m8 98 x6))) ∧ ((inR (x5 + ((m8 93 x6) - (m8 98 x6)))) ∧ ((inR (x6 + 1)) ∧ (Wq l G false Y_M_mend d (QI P) 62 [(0, .inr (.inr 70)), (1, .inl x1), (2, .inl x2), (3, .inl x3), (4, .inl 0), (5, .inl (x5 + ((m8 93 x6) - (m8 98 x6)))), (6, .inl (x6 + 1))] [] m8))))))) ∧ (¬ ((m8 93 x6) < (m8 98 x6)) → ((0 ≤ x6 ∧ x6 < (5 : Int)) ∧ ((0 ≤ x6 ∧ x6 < (5 : Int)) ∧ ((inR ((m8 93 x6) - (m8 98 x6))) ∧ ((inR (x5 + ((m8 93 x6) - (m8 98 x6)))) ∧ ((inR (x6 + 1)) ∧ (Wq l G false Y_M_mend d (QI P) 62 [(0, .inr (.inr 70)), (1, .inl x1), (2, .inl x2), (3, .inl x3), (4, .inl 1), (5, .inl (x5 + ((m8 93 x6) - (m8 98 x6)))), (6, .inl (x6 + 1))] [] m8)))))))))))))))) : Wq l G false Y_M_mend d (QI P) 62 [(0, .inr (.inr 70)), (1, .inl x1), (2, .inl x2), (3, .inl x3), (4, .inl x4), (5, .inl x5), (6, .inl x6)] [] m := by
  refine Wp.wf (fun hw _ hl hs => ?_)
  have H0 := H hw (hl _ (List.mem_of_getElem? (i := 1) rfl)) (hl _ (List.mem_of_getElem? (i := 2) rfl)) (hl _ (List.mem_of_getElem? (i := 3) rfl)) (hl _ (List.mem_of_getElem? (i := 4) rfl)) (hl _ (List.mem_of_getElem? (i := 5) rfl)) (hl _ (List.mem_of_getElem? (i := 6) rfl))
  refine Wp.iload 6 6 d_M_mend_62 rfl ?_
  refine Wp.aload_n 0 0 d_M_mend_64 rfl rfl ?_
  obtain ⟨e1, P2, hd3, ho4, H5⟩ := H0
  refine Wq.VI (st := [.inl x6]) [] d_M_mend_65 k_M_lots ml_M_338 rfl rfl rfl (fun h => by cases h) (Nat.le_of_ble_eq_true rfl) hd3 ho4 (fun z7 m8 hp9 hz10 hw11 => ?_)
  have H6 := H5 z7 m8 hp9 hz10 hw11
  obtain ⟨H13, H14⟩ := H6
  refine Wp.icmp_ge 126 d_M_mend_68 (by decide) (fun c12 => ?_) (fun c12 => ?_)
  · have H15 := H13 c12
    refine Wp.iload 4 4 d_M_mend_126 rfl ?_
    obtain ⟨H18, H19⟩ := H15
    refine Wp.if_eq 152 d_M_mend_128 (by decide) (fun c17 => ?_) (fun c17 => ?_)
    · have H20 := H18 c17
      obtain ⟨s22, H23⟩ := H20
      refine Wp.iinc 3 3 [(0, .inr (.inr 70)), (1, .inl x1), (2, .inl x2), (3, .inl (x3 + 1)), (4, .inl x4), (5, .inl x5), (6, .inl x6)] d_M_mend_152 rfl s22 (by decide) rfl ?_
      refine Wp.goto 40 d_M_mend_155 (by decide) ?_
      refine Wp.pick [0, 1, 2, 3] [(0, .inr (.inr 70)), (1, .inl x1), (2, .inl x2), (3, .inl (x3 + 1))] rfl ?_
      exact H23
    · have H21 := H19 c17
      refine Wp.iload 5 5 d_M_mend_131 rfl ?_
      refine Wp.iload_n 2 2 d_M_mend_133 rfl rfl ?_
      obtain ⟨H25, H26⟩ := H21
      refine Wp.icmp_ge 152 d_M_mend_134 (by decide) (fun c24 => ?_) (fun c24 => ?_)
      · have H27 := H25 c24
        obtain ⟨s29, H30⟩ := H27
        refine Wp.iinc 3 3 [(0, .inr (.inr 70)), (1, .inl x1), (2, .inl x2), (3, .inl (x3 + 1)), (4, .inl x4), (5, .inl x5), (6, .inl x6)] d_M_mend_152 rfl s29 (by decide) rfl ?_
        refine Wp.goto 40 d_M_mend_155 (by decide) ?_
        refine Wp.pick [0, 1, 2, 3] [(0, .inr (.inr 70)), (1, .inl x1), (2, .inl x2), (3, .inl (x3 + 1))] rfl ?_
        exact H30
      · have H28 := H26 c24
        refine Wp.aload_n 0 0 d_M_mend_137 rfl rfl ?_
        obtain ⟨e31, P32, hd33, ho34, H35⟩ := H28
        refine Wq.VI (st := []) [] d_M_mend_138 k_M_comesAgain ml_M_449 rfl rfl rfl (fun h => by cases h) (Nat.le_of_ble_eq_true rfl) hd33 ho34 (fun z37 m38 hp39 hz40 hw41 => ?_)
        have H36 := H35 z37 m38 hp39 hz40 hw41
        obtain ⟨H43, H44⟩ := H36
        refine Wp.if_ne 147 d_M_mend_141 (by decide) (fun c42 => ?_) (fun c42 => ?_)
        · have H45 := H43 c42
          refine Wp.iload_n 3 3 d_M_mend_147 rfl rfl ?_
          refine Wp.istore_n 1 [(0, .inr (.inr 70)), (1, .inl x3), (2, .inl x2), (3, .inl x3), (4, .inl x4), (5, .inl x5), (6, .inl x6)] d_M_mend_148 rfl (by decide) rfl ?_
          refine Wp.iload 5 5 d_M_mend_149 rfl ?_
          refine Wp.istore_n 2 [(0, .inr (.inr 70)), (1, .inl x3), (2, .inl x5), (3, .inl x3), (4, .inl x4), (5, .inl x5), (6, .inl x6)] d_M_mend_151 rfl (by decide) rfl ?_
          obtain ⟨s47, H48⟩ := H45
          refine Wp.iinc 3 3 [(0, .inr (.inr 70)), (1, .inl x3), (2, .inl x5), (3, .inl (x3 + 1)), (4, .inl x4), (5, .inl x5), (6, .inl x6)] d_M_mend_152 rfl s47 (by decide) rfl ?_
          refine Wp.goto 40 d_M_mend_155 (by decide) ?_
          refine Wp.pick [0, 1, 2, 3] [(0, .inr (.inr 70)), (1, .inl x3), (2, .inl x5), (3, .inl (x3 + 1))] rfl ?_
          exact H48
        · have H46 := H44 c42
          refine Wp.goto 152 d_M_mend_144 (by decide) ?_
          obtain ⟨s49, H50⟩ := H46
          refine Wp.iinc 3 3 [(0, .inr (.inr 70)), (1, .inl x1), (2, .inl x2), (3, .inl (x3 + 1)), (4, .inl x4), (5, .inl x5), (6, .inl x6)] d_M_mend_152 rfl s49 (by decide) rfl ?_
          refine Wp.goto 40 d_M_mend_155 (by decide) ?_
          refine Wp.pick [0, 1, 2, 3] [(0, .inr (.inr 70)), (1, .inl x1), (2, .inl x2), (3, .inl (x3 + 1))] rfl ?_
          exact H50
  · have H16 := H14 c12
    refine Wp.iload 4 4 d_M_mend_71 rfl ?_
    obtain ⟨H52, H53⟩ := H16
    refine Wp.if_eq 126 d_M_mend_73 (by decide) (fun c51 => ?_) (fun c51 => ?_)
    · have H54 := H52 c51
      refine Wp.iload 4 4 d_M_mend_126 rfl ?_
      obtain ⟨H57, H58⟩ := H54
      refine Wp.if_eq 152 d_M_mend_128 (by decide) (fun c56 => ?_) (fun c56 => ?_)
      · have H59 := H57 c56
        obtain ⟨s61, H62⟩ := H59
        refine Wp.iinc 3 3 [(0, .inr (.inr 70)), (1, .inl x1), (2, .inl x2), (3, .inl (x3 + 1)), (4, .inl x4), (5, .inl x5), (6, .inl x6)] d_M_mend_152 rfl s61 (by decide) rfl ?_
        refine Wp.goto 40 d_M_mend_155 (by decide) ?_
        refine Wp.pick [0, 1, 2, 3] [(0, .inr (.inr 70)), (1, .inl x1), (2, .inl x2), (3, .inl (x3 + 1))] rfl ?_
        exact H62
      · have H60 := H58 c56
        refine Wp.iload 5 5 d_M_mend_131 rfl ?_
        refine Wp.iload_n 2 2 d_M_mend_133 rfl rfl ?_
        obtain ⟨H64, H65⟩ := H60
        refine Wp.icmp_ge 152 d_M_mend_134 (by decide) (fun c63 => ?_) (fun c63 => ?_)
        · have H66 := H64 c63
          obtain ⟨s68, H69⟩ := H66
          refine Wp.iinc 3 3 [(0, .inr (.inr 70)), (1, .inl x1), (2, .inl x2), (3, .inl (x3 + 1)), (4, .inl x4), (5, .inl x5), (6, .inl x6)] d_M_mend_152 rfl s68 (by decide) rfl ?_
          refine Wp.goto 40 d_M_mend_155 (by decide) ?_
          refine Wp.pick [0, 1, 2, 3] [(0, .inr (.inr 70)), (1, .inl x1), (2, .inl x2), (3, .inl (x3 + 1))] rfl ?_
          exact H69
        · have H67 := H65 c63
          refine Wp.aload_n 0 0 d_M_mend_137 rfl rfl ?_
          obtain ⟨e70, P71, hd72, ho73, H74⟩ := H67
          refine Wq.VI (st := []) [] d_M_mend_138 k_M_comesAgain ml_M_449 rfl rfl rfl (fun h => by cases h) (Nat.le_of_ble_eq_true rfl) hd72 ho73 (fun z76 m77 hp78 hz79 hw80 => ?_)
          have H75 := H74 z76 m77 hp78 hz79 hw80
          obtain ⟨H82, H83⟩ := H75
          refine Wp.if_ne 147 d_M_mend_141 (by decide) (fun c81 => ?_) (fun c81 => ?_)
          · have H84 := H82 c81
            refine Wp.iload_n 3 3 d_M_mend_147 rfl rfl ?_
            refine Wp.istore_n 1 [(0, .inr (.inr 70)), (1, .inl x3), (2, .inl x2), (3, .inl x3), (4, .inl x4), (5, .inl x5), (6, .inl x6)] d_M_mend_148 rfl (by decide) rfl ?_
            refine Wp.iload 5 5 d_M_mend_149 rfl ?_
            refine Wp.istore_n 2 [(0, .inr (.inr 70)), (1, .inl x3), (2, .inl x5), (3, .inl x3), (4, .inl x4), (5, .inl x5), (6, .inl x6)] d_M_mend_151 rfl (by decide) rfl ?_
            obtain ⟨s86, H87⟩ := H84
            refine Wp.iinc 3 3 [(0, .inr (.inr 70)), (1, .inl x3), (2, .inl x5), (3, .inl (x3 + 1)), (4, .inl x4), (5, .inl x5), (6, .inl x6)] d_M_mend_152 rfl s86 (by decide) rfl ?_
            refine Wp.goto 40 d_M_mend_155 (by decide) ?_
            refine Wp.pick [0, 1, 2, 3] [(0, .inr (.inr 70)), (1, .inl x3), (2, .inl x5), (3, .inl (x3 + 1))] rfl ?_
            exact H87
          · have H85 := H83 c81
            refine Wp.goto 152 d_M_mend_144 (by decide) ?_
            obtain ⟨s88, H89⟩ := H85
            refine Wp.iinc 3 3 [(0, .inr (.inr 70)), (1, .inl x1), (2, .inl x2), (3, .inl (x3 + 1)), (4, .inl x4), (5, .inl x5), (6, .inl x6)] d_M_mend_152 rfl s88 (by decide) rfl ?_
            refine Wp.goto 40 d_M_mend_155 (by decide) ?_
            refine Wp.pick [0, 1, 2, 3] [(0, .inr (.inr 70)), (1, .inl x1), (2, .inl x2), (3, .inl (x3 + 1))] rfl ?_
            exact H89
    · have H55 := H53 c51
      refine Wp.aload_n 0 0 d_M_mend_76 rfl rfl ?_
      refine Wp.getP 93 d_M_mend_77 fl_M_82 rfl rfl rfl ?_
      refine Wp.iload 6 6 d_M_mend_80 rfl ?_
      obtain ⟨s90, H91⟩ := H55
      refine Wp.iald d_M_mend_82 rfl (Or.inl rfl) s90.1 s90.2 ?_
      refine Wp.aload_n 0 0 d_M_mend_83 rfl rfl ?_
      refine Wp.getP 98 d_M_mend_84 fl_M_97 rfl rfl rfl ?_
      refine Wp.iload 6 6 d_M_mend_87 rfl ?_
      obtain ⟨s92, H93⟩ := H91
      refine Wp.iald d_M_mend_89 rfl (Or.inl rfl) s92.1 s92.2 ?_
      obtain ⟨H95, H96⟩ := H93
      refine Wp.icmp_lt 97 d_M_mend_90 (by decide) (fun c94 => ?_) (fun c94 => ?_)
      · have H97 := H95 c94
        refine Wp.iconst d_M_mend_97 (by decide) ?_
        refine Wp.istore 4 [(0, .inr (.inr 70)), (1, .inl x1), (2, .inl x2), (3, .inl x3), (4, .inl 0), (5, .inl x5), (6, .inl x6)] d_M_mend_98 (by decide) rfl ?_
        refine Wp.iload 5 5 d_M_mend_100 rfl ?_
        refine Wp.aload_n 0 0 d_M_mend_102 rfl rfl ?_
        refine Wp.getP 93 d_M_mend_103 fl_M_82 rfl rfl rfl ?_
        refine Wp.iload 6 6 d_M_mend_106 rfl ?_
        obtain ⟨s99, H100⟩ := H97
        refine Wp.iald d_M_mend_108 rfl (Or.inl rfl) s99.1 s99.2 ?_
        refine Wp.aload_n 0 0 d_M_mend_109 rfl rfl ?_
        refine Wp.getP 98 d_M_mend_110 fl_M_97 rfl rfl rfl ?_
        refine Wp.iload 6 6 d_M_mend_113 rfl ?_
        obtain ⟨s101, H102⟩ := H100
        refine Wp.iald d_M_mend_115 rfl (Or.inl rfl) s101.1 s101.2 ?_
        obtain ⟨s103, H104⟩ := H102
        refine Wp.isub d_M_mend_116 s103 ?_
        obtain ⟨s105, H106⟩ := H104
        refine Wp.iadd d_M_mend_117 s105 ?_
        refine Wp.istore 5 [(0, .inr (.inr 70)), (1, .inl x1), (2, .inl x2), (3, .inl x3), (4, .inl 0), (5, .inl (x5 + ((m8 93 x6) - (m8 98 x6)))), (6, .inl x6)] d_M_mend_118 (by decide) rfl ?_
        obtain ⟨s107, H108⟩ := H106
        refine Wp.iinc 6 6 [(0, .inr (.inr 70)), (1, .inl x1), (2, .inl x2), (3, .inl x3), (4, .inl 0), (5, .inl (x5 + ((m8 93 x6) - (m8 98 x6)))), (6, .inl (x6 + 1))] d_M_mend_120 rfl s107 (by decide) rfl ?_
        refine Wp.goto 62 d_M_mend_123 (by decide) ?_
        exact H108
      · have H98 := H96 c94
        refine Wp.iconst d_M_mend_93 (by decide) ?_
        refine Wp.goto 98 d_M_mend_94 (by decide) ?_
        refine Wp.istore 4 [(0, .inr (.inr 70)), (1, .inl x1), (2, .inl x2), (3, .inl x3), (4, .inl 1), (5, .inl x5), (6, .inl x6)] d_M_mend_98 (by decide) rfl ?_
        refine Wp.iload 5 5 d_M_mend_100 rfl ?_
        refine Wp.aload_n 0 0 d_M_mend_102 rfl rfl ?_
        refine Wp.getP 93 d_M_mend_103 fl_M_82 rfl rfl rfl ?_
        refine Wp.iload 6 6 d_M_mend_106 rfl ?_
        obtain ⟨s109, H110⟩ := H98
        refine Wp.iald d_M_mend_108 rfl (Or.inl rfl) s109.1 s109.2 ?_
        refine Wp.aload_n 0 0 d_M_mend_109 rfl rfl ?_
        refine Wp.getP 98 d_M_mend_110 fl_M_97 rfl rfl rfl ?_
        refine Wp.iload 6 6 d_M_mend_113 rfl ?_
        obtain ⟨s111, H112⟩ := H110
        refine Wp.iald d_M_mend_115 rfl (Or.inl rfl) s111.1 s111.2 ?_
        obtain ⟨s113, H114⟩ := H112
        refine Wp.isub d_M_mend_116 s113 ?_
        obtain ⟨s115, H116⟩ := H114
        refine Wp.iadd d_M_mend_117 s115 ?_
        refine Wp.istore 5 [(0, .inr (.inr 70)), (1, .inl x1), (2, .inl x2), (3, .inl x3), (4, .inl 1), (5, .inl (x5 + ((m8 93 x6) - (m8 98 x6)))), (6, .inl x6)] d_M_mend_118 (by decide) rfl ?_
        obtain ⟨s117, H118⟩ := H116
        refine Wp.iinc 6 6 [(0, .inr (.inr 70)), (1, .inl x1), (2, .inl x2), (3, .inl x3), (4, .inl 1), (5, .inl (x5 + ((m8 93 x6) - (m8 98 x6)))), (6, .inl (x6 + 1))] d_M_mend_120 rfl s117 (by decide) rfl ?_
        refine Wp.goto 62 d_M_mend_123 (by decide) ?_
        exact H118
theorem s_M_mend_165 {l : Launch} {G : GT} {d : Nat} {P : Int → MM → Prop} {m : MM} (x2 : Int) (x3 : Int)  (H : wfM m → inR x2 → inR x3 → ∃ (e1 : Nat) (P2 : Int → MM → Prop), e1 < d ∧ CI l G Y_M_lots e1 [.inr (.inr 70)] m P2 ∧ (∀ z7 m8, P2 z7 m8 → inR z7 → wfM m8 → ((x3 ≥ z7 → (∃ (e17 : Nat) (P18 : Int → MM → Prop), e17 < d ∧ CI l G Y_M_lots e17 [.inr (.inr 70)] m8 P18 ∧ (∀ z23 m24, P18 z23 m24 → inR z23 → wfM m24 → (∀ m28, m28 = up m24 70 48 z23 → (P x2 m28))))) ∧ (¬ (x3 ≥ z7) → ((0 ≤ x3 ∧ x3 < (5 : Int)) ∧ ((0 ≤ x3 ∧ x3 < (5 : Int)) ∧ ((inR ((m8 93 x3) - (m8 98 x3))) ∧ ((0 ≤ x3 ∧ x3 < (60 : Int)) ∧ (∀ m37, m37 = up m8 97 x3 ((m8 93 x3) - (m8 98 x3)) → ((inR (x3 + 1)) ∧ (Wq l G false Y_M_mend d (QI P) 165 [(0, .inr (.inr 70)), (2, .inl x2), (3, .inl (x3 + 1))] [] m37))))))))))) : Wq l G false Y_M_mend d (QI P) 165 [(0, .inr (.inr 70)), (2, .inl x2), (3, .inl x3)] [] m := by
  refine Wp.wf (fun hw _ hl hs => ?_)
  have H0 := H hw (hl _ (List.mem_of_getElem? (i := 1) rfl)) (hl _ (List.mem_of_getElem? (i := 2) rfl))
  refine Wp.iload_n 2 3 d_M_mend_165 rfl rfl ?_
  refine Wp.aload_n 0 0 d_M_mend_166 rfl rfl ?_
  obtain ⟨e1, P2, hd3, ho4, H5⟩ := H0
  refine Wq.VI (st := [.inl x3]) [] d_M_mend_167 k_M_lots ml_M_338 rfl rfl rfl (fun h => by cases h) (Nat.le_of_ble_eq_true rfl) hd3 ho4 (fun z7 m8 hp9 hz10 hw11 => ?_)
  have H6 := H5 z7 m8 hp9 hz10 hw11
  obtain ⟨H13, H14⟩ := H6
  refine Wp.icmp_ge 198 d_M_mend_170 (by decide) (fun c12 => ?_) (fun c12 => ?_)
  · have H15 := H13 c12
    refine Wp.aload_n 0 0 d_M_mend_198 rfl rfl ?_
    refine Wp.aload_n 0 0 d_M_mend_199 rfl rfl ?_
    obtain ⟨e17, P18, hd19, ho20, H21⟩ := H15
    refine Wq.VI (st := [.inr (.inr 70)]) [] d_M_mend_200 k_M_lots ml_M_338 rfl rfl rfl (fun h => by cases h) (Nat.le_of_ble_eq_true rfl) hd19 ho20 (fun z23 m24 hp25 hz26 hw27 => ?_)
    have H22 := H21 z23 m24 hp25 hz26 hw27
    refine Wq.putI 48 rfl d_M_mend_203 fl_M_369 (fun _ _ _ h => by cases h; rfl) rfl rfl rfl (fun m28 hm29 => ?_)
    have H30 := H22 m28 hm29
    refine Wp.iload_n 1 2 d_M_mend_206 rfl rfl ?_
    exact Wq.iret d_M_mend_207 rfl H30
  · have H16 := H14 c12
    refine Wp.aload_n 0 0 d_M_mend_173 rfl rfl ?_
    refine Wp.getP 97 d_M_mend_174 fl_M_94 rfl rfl rfl ?_
    refine Wp.iload_n 2 3 d_M_mend_177 rfl rfl ?_
    refine Wp.aload_n 0 0 d_M_mend_178 rfl rfl ?_
    refine Wp.getP 93 d_M_mend_179 fl_M_82 rfl rfl rfl ?_
    refine Wp.iload_n 2 3 d_M_mend_182 rfl rfl ?_
    obtain ⟨s31, H32⟩ := H16
    refine Wp.iald d_M_mend_183 rfl (Or.inl rfl) s31.1 s31.2 ?_
    refine Wp.aload_n 0 0 d_M_mend_184 rfl rfl ?_
    refine Wp.getP 98 d_M_mend_185 fl_M_97 rfl rfl rfl ?_
    refine Wp.iload_n 2 3 d_M_mend_188 rfl rfl ?_
    obtain ⟨s33, H34⟩ := H32
    refine Wp.iald d_M_mend_189 rfl (Or.inl rfl) s33.1 s33.2 ?_
    obtain ⟨s35, H36⟩ := H34
    refine Wp.isub d_M_mend_190 s35 ?_
    obtain ⟨s44, H45⟩ := H36
    refine Wq.iast d_M_mend_191 rfl s44.1 s44.2 (fun m37 hm38 => ?_)
    have H39 := H45 m37 hm38
    obtain ⟨s42, H43⟩ := H39
    refine Wp.iinc 2 3 [(0, .inr (.inr 70)), (2, .inl x2), (3, .inl (x3 + 1))] d_M_mend_192 rfl s42 (by decide) rfl ?_
    refine Wp.goto 165 d_M_mend_195 (by decide) ?_
    exact H43
theorem d_M_nought_0 : decode Y_M_nought.2.1 0 = .ok (.aload_n 0, 1) := by decide +kernel
theorem d_M_nought_1 : decode Y_M_nought.2.1 1 = .ok (.iload_n 1, 1) := by decide +kernel
theorem d_M_nought_2 : decode Y_M_nought.2.1 2 = .ok (.invokevirtual 405, 3) := by decide +kernel
theorem d_M_nought_5 : decode Y_M_nought.2.1 5 = .ok (.ifCond .eq 12, 3) := by decide +kernel
theorem d_M_nought_8 : decode Y_M_nought.2.1 8 = .ok (.aload_n 0, 1) := by decide +kernel
theorem d_M_nought_9 : decode Y_M_nought.2.1 9 = .ok (.getfield 88, 3) := by decide +kernel
theorem d_M_nought_12 : decode Y_M_nought.2.1 12 = .ok (.iload_n 1, 1) := by decide +kernel
theorem d_M_nought_13 : decode Y_M_nought.2.1 13 = .ok (.iaload, 1) := by decide +kernel
theorem d_M_nought_14 : decode Y_M_nought.2.1 14 = .ok (.goto 4, 3) := by decide +kernel
theorem d_M_nought_17 : decode Y_M_nought.2.1 17 = .ok (.iconst (-1), 1) := by decide +kernel
theorem d_M_nought_18 : decode Y_M_nought.2.1 18 = .ok (.ireturn, 1) := by decide +kernel
theorem e_M_nought {l : Launch} {G : GT} {d : Nat} {P : Int → MM → Prop} {m : MM} (x1 : Int)  (H : wfM m → inR x1 → ∃ (e1 : Nat) (P2 : Int → MM → Prop), e1 < d ∧ CI l G Y_M_isPlate e1 [.inr (.inr 70), .inl x1] m P2 ∧ (∀ z7 m8, P2 z7 m8 → inR z7 → wfM m8 → ((z7 = 0 → (P (-1) m8)) ∧ (¬ (z7 = 0) → ((0 ≤ x1 ∧ x1 < (5 : Int)) ∧ (P (m8 95 x1) m8)))))) : CI l G Y_M_nought d [.inr (.inr 70), .inl x1] m P := by
  refine CI.of [(0, .inr (.inr 70)), (1, .inl x1)] k_M_nought.1 (Nat.le_of_ble_eq_true rfl) rfl (Wp.wf (fun hw _ hl hs => ?_))
  have H0 := H hw (hl _ (List.mem_of_getElem? (i := 1) rfl))
  refine Wp.aload_n 0 0 d_M_nought_0 rfl rfl ?_
  refine Wp.iload_n 1 1 d_M_nought_1 rfl rfl ?_
  obtain ⟨e1, P2, hd3, ho4, H5⟩ := H0
  refine Wq.VI (st := []) [.inl x1] d_M_nought_2 k_M_isPlate ml_M_405 rfl rfl rfl (fun h => by cases h) (Nat.le_of_ble_eq_true rfl) hd3 ho4 (fun z7 m8 hp9 hz10 hw11 => ?_)
  have H6 := H5 z7 m8 hp9 hz10 hw11
  obtain ⟨H13, H14⟩ := H6
  refine Wp.if_eq 17 d_M_nought_5 (by decide) (fun c12 => ?_) (fun c12 => ?_)
  · have H15 := H13 c12
    refine Wp.iconst d_M_nought_17 (by decide) ?_
    exact Wq.iret d_M_nought_18 rfl H15
  · have H16 := H14 c12
    refine Wp.aload_n 0 0 d_M_nought_8 rfl rfl ?_
    refine Wp.getP 95 d_M_nought_9 fl_M_88 rfl rfl rfl ?_
    refine Wp.iload_n 1 1 d_M_nought_12 rfl rfl ?_
    obtain ⟨s17, H18⟩ := H16
    refine Wp.iald d_M_nought_13 rfl (Or.inl rfl) s17.1 s17.2 ?_
    refine Wp.goto 18 d_M_nought_14 (by decide) ?_
    exact Wq.iret d_M_nought_18 rfl H18
theorem d_M_own_0 : decode Y_M_own.2.1 0 = .ok (.aload_n 0, 1) := by decide +kernel
theorem d_M_own_1 : decode Y_M_own.2.1 1 = .ok (.iload_n 1, 1) := by decide +kernel
theorem d_M_own_2 : decode Y_M_own.2.1 2 = .ok (.invokevirtual 405, 3) := by decide +kernel
theorem d_M_own_5 : decode Y_M_own.2.1 5 = .ok (.ifCond .ne 5, 3) := by decide +kernel
theorem d_M_own_8 : decode Y_M_own.2.1 8 = .ok (.iconst (-1), 1) := by decide +kernel
theorem d_M_own_9 : decode Y_M_own.2.1 9 = .ok (.ireturn, 1) := by decide +kernel
theorem d_M_own_10 : decode Y_M_own.2.1 10 = .ok (.aload_n 0, 1) := by decide +kernel
theorem d_M_own_11 : decode Y_M_own.2.1 11 = .ok (.invokevirtual 378, 3) := by decide +kernel
theorem d_M_own_14 : decode Y_M_own.2.1 14 = .ok (.aload_n 0, 1) := by decide +kernel
theorem d_M_own_15 : decode Y_M_own.2.1 15 = .ok (.invokevirtual 384, 3) := by decide +kernel
theorem d_M_own_18 : decode Y_M_own.2.1 18 = .ok (.aload_n 0, 1) := by decide +kernel
theorem d_M_own_19 : decode Y_M_own.2.1 19 = .ok (.getfield 82, 3) := by decide +kernel
theorem d_M_own_22 : decode Y_M_own.2.1 22 = .ok (.iload_n 1, 1) := by decide +kernel
theorem d_M_own_23 : decode Y_M_own.2.1 23 = .ok (.iaload, 1) := by decide +kernel
theorem d_M_own_24 : decode Y_M_own.2.1 24 = .ok (.ireturn, 1) := by decide +kernel
theorem e_M_own {l : Launch} {G : GT} {d : Nat} {P : Int → MM → Prop} {m : MM} (x1 : Int)  (H : wfM m → inR x1 → ∃ (e1 : Nat) (P2 : Int → MM → Prop), e1 < d ∧ CI l G Y_M_isPlate e1 [.inr (.inr 70), .inl x1] m P2 ∧ (∀ z7 m8, P2 z7 m8 → inR z7 → wfM m8 → ((z7 ≠ 0 → (∃ (e17 : Nat) (P18 : MM → Prop), e17 < d ∧ CV l G Y_M_layNow e17 [.inr (.inr 70)] m8 P18 ∧ (∀ m24, P18 m24 → wfM m24 → (∃ (e28 : Nat) (P29 : MM → Prop), e28 < d ∧ CV l G Y_M_makeOwn e28 [.inr (.inr 70)] m24 P29 ∧ (∀ m35, P29 m35 → wfM m35 → ((0 ≤ x1 ∧ x1 < (5 : Int)) ∧ (P (m35 93 x1) m35))))))) ∧ (¬ (z7 ≠ 0) → (P (-1) m8))))) : CI l G Y_M_own d [.inr (.inr 70), .inl x1] m P := by
  refine CI.of [(0, .inr (.inr 70)), (1, .inl x1)] k_M_own.1 (Nat.le_of_ble_eq_true rfl) rfl (Wp.wf (fun hw _ hl hs => ?_))
  have H0 := H hw (hl _ (List.mem_of_getElem? (i := 1) rfl))
  refine Wp.aload_n 0 0 d_M_own_0 rfl rfl ?_
  refine Wp.iload_n 1 1 d_M_own_1 rfl rfl ?_
  obtain ⟨e1, P2, hd3, ho4, H5⟩ := H0
  refine Wq.VI (st := []) [.inl x1] d_M_own_2 k_M_isPlate ml_M_405 rfl rfl rfl (fun h => by cases h) (Nat.le_of_ble_eq_true rfl) hd3 ho4 (fun z7 m8 hp9 hz10 hw11 => ?_)
  have H6 := H5 z7 m8 hp9 hz10 hw11
  obtain ⟨H13, H14⟩ := H6
  refine Wp.if_ne 10 d_M_own_5 (by decide) (fun c12 => ?_) (fun c12 => ?_)
  · have H15 := H13 c12
    refine Wp.aload_n 0 0 d_M_own_10 rfl rfl ?_
    obtain ⟨e17, P18, hd19, ho20, H21⟩ := H15
    refine Wq.VV (st := []) [] d_M_own_11 k_M_layNow ml_M_378 rfl rfl rfl (fun h => by cases h) (Nat.le_of_ble_eq_true rfl) hd19 ho20 (fun m24 hp25 hw27 => ?_)
    have H22 := H21 m24 hp25 hw27
    refine Wp.aload_n 0 0 d_M_own_14 rfl rfl ?_
    obtain ⟨e28, P29, hd30, ho31, H32⟩ := H22
    refine Wq.VV (st := []) [] d_M_own_15 k_M_makeOwn ml_M_384 rfl rfl rfl (fun h => by cases h) (Nat.le_of_ble_eq_true rfl) hd30 ho31 (fun m35 hp36 hw38 => ?_)
    have H33 := H32 m35 hp36 hw38
    refine Wp.aload_n 0 0 d_M_own_18 rfl rfl ?_
    refine Wp.getP 93 d_M_own_19 fl_M_82 rfl rfl rfl ?_
    refine Wp.iload_n 1 1 d_M_own_22 rfl rfl ?_
    obtain ⟨s39, H40⟩ := H33
    refine Wp.iald d_M_own_23 rfl (Or.inl rfl) s39.1 s39.2 ?_
    exact Wq.iret d_M_own_24 rfl H40
  · have H16 := H14 c12
    refine Wp.iconst d_M_own_8 (by decide) ?_
    exact Wq.iret d_M_own_9 rfl H16
theorem d_M_makeOwn_0 : decode Y_M_makeOwn.2.1 0 = .ok (.iconst 0, 1) := by decide +kernel
theorem d_M_makeOwn_1 : decode Y_M_makeOwn.2.1 1 = .ok (.istore_n 1, 1) := by decide +kernel
theorem d_M_makeOwn_2 : decode Y_M_makeOwn.2.1 2 = .ok (.iload_n 1, 1) := by decide +kernel
theorem d_M_makeOwn_3 : decode Y_M_makeOwn.2.1 3 = .ok (.aload_n 0, 1) := by decide +kernel
theorem d_M_makeOwn_4 : decode Y_M_makeOwn.2.1 4 = .ok (.invokevirtual 338, 3) := by decide +kernel
theorem d_M_makeOwn_7 : decode Y_M_makeOwn.2.1 7 = .ok (.if_icmp .ge 49, 3) := by decide +kernel
theorem d_M_makeOwn_10 : decode Y_M_makeOwn.2.1 10 = .ok (.aload_n 0, 1) := by decide +kernel
theorem d_M_makeOwn_11 : decode Y_M_makeOwn.2.1 11 = .ok (.getfield 82, 3) := by decide +kernel
theorem d_M_makeOwn_14 : decode Y_M_makeOwn.2.1 14 = .ok (.iload_n 1, 1) := by decide +kernel
theorem d_M_makeOwn_15 : decode Y_M_makeOwn.2.1 15 = .ok (.iaload, 1) := by decide +kernel
theorem d_M_makeOwn_16 : decode Y_M_makeOwn.2.1 16 = .ok (.ifCond .ge 19, 3) := by decide +kernel
theorem d_M_makeOwn_19 : decode Y_M_makeOwn.2.1 19 = .ok (.aload_n 0, 1) := by decide +kernel
theorem d_M_makeOwn_20 : decode Y_M_makeOwn.2.1 20 = .ok (.getfield 82, 3) := by decide +kernel
theorem d_M_makeOwn_23 : decode Y_M_makeOwn.2.1 23 = .ok (.iload_n 1, 1) := by decide +kernel
theorem d_M_makeOwn_24 : decode Y_M_makeOwn.2.1 24 = .ok (.dup2, 1) := by decide +kernel
theorem d_M_makeOwn_25 : decode Y_M_makeOwn.2.1 25 = .ok (.iaload, 1) := by decide +kernel
theorem d_M_makeOwn_26 : decode Y_M_makeOwn.2.1 26 = .ok (.aload_n 0, 1) := by decide +kernel
theorem d_M_makeOwn_27 : decode Y_M_makeOwn.2.1 27 = .ok (.getfield 354, 3) := by decide +kernel
theorem d_M_makeOwn_30 : decode Y_M_makeOwn.2.1 30 = .ok (.iadd, 1) := by decide +kernel
theorem d_M_makeOwn_31 : decode Y_M_makeOwn.2.1 31 = .ok (.iastore, 1) := by decide +kernel
theorem d_M_makeOwn_32 : decode Y_M_makeOwn.2.1 32 = .ok (.goto (-22), 3) := by decide +kernel
theorem d_M_makeOwn_35 : decode Y_M_makeOwn.2.1 35 = .ok (.aload_n 0, 1) := by decide +kernel
theorem d_M_makeOwn_36 : decode Y_M_makeOwn.2.1 36 = .ok (.getfield 82, 3) := by decide +kernel
theorem d_M_makeOwn_39 : decode Y_M_makeOwn.2.1 39 = .ok (.iload_n 1, 1) := by decide +kernel
theorem d_M_makeOwn_40 : decode Y_M_makeOwn.2.1 40 = .ok (.dup2, 1) := by decide +kernel
theorem d_M_makeOwn_41 : decode Y_M_makeOwn.2.1 41 = .ok (.iaload, 1) := by decide +kernel
theorem d_M_makeOwn_42 : decode Y_M_makeOwn.2.1 42 = .ok (.aload_n 0, 1) := by decide +kernel
theorem d_M_makeOwn_43 : decode Y_M_makeOwn.2.1 43 = .ok (.getfield 88, 3) := by decide +kernel
theorem d_M_makeOwn_46 : decode Y_M_makeOwn.2.1 46 = .ok (.iload_n 1, 1) := by decide +kernel
theorem d_M_makeOwn_47 : decode Y_M_makeOwn.2.1 47 = .ok (.iaload, 1) := by decide +kernel
theorem d_M_makeOwn_48 : decode Y_M_makeOwn.2.1 48 = .ok (.iadd, 1) := by decide +kernel
theorem d_M_makeOwn_49 : decode Y_M_makeOwn.2.1 49 = .ok (.iastore, 1) := by decide +kernel
theorem d_M_makeOwn_50 : decode Y_M_makeOwn.2.1 50 = .ok (.iinc 1 1, 3) := by decide +kernel
theorem d_M_makeOwn_53 : decode Y_M_makeOwn.2.1 53 = .ok (.goto (-51), 3) := by decide +kernel
theorem d_M_makeOwn_56 : decode Y_M_makeOwn.2.1 56 = .ok (.aload_n 0, 1) := by decide +kernel
theorem d_M_makeOwn_57 : decode Y_M_makeOwn.2.1 57 = .ok (.invokevirtual 381, 3) := by decide +kernel
theorem d_M_makeOwn_60 : decode Y_M_makeOwn.2.1 60 = .ok (.istore_n 1, 1) := by decide +kernel
theorem d_M_makeOwn_61 : decode Y_M_makeOwn.2.1 61 = .ok (.return_, 1) := by decide +kernel
theorem e_M_makeOwn {l : Launch} {G : GT} {d : Nat} {P : MM → Prop} {m : MM}   (H : wfM m → Wq l G false Y_M_makeOwn d (QV P) 2 [(0, .inr (.inr 70)), (1, .inl 0)] [] m) : CV l G Y_M_makeOwn d [.inr (.inr 70)] m P := by
  refine CV.of [(0, .inr (.inr 70))] k_M_makeOwn.1 (Nat.le_of_ble_eq_true rfl) rfl (Wp.wf (fun hw _ hl hs => ?_))
  have H0 := H hw
  refine Wp.iconst d_M_makeOwn_0 (by decide) ?_
  refine Wp.istore_n 1 [(0, .inr (.inr 70)), (1, .inl 0)] d_M_makeOwn_1 rfl (by decide) rfl ?_
  exact H0
theorem s_M_makeOwn_2 {l : Launch} {G : GT} {d : Nat} {P : MM → Prop} {m : MM} (x1 : Int)  (H : wfM m → inR x1 → ∃ (e1 : Nat) (P2 : Int → MM → Prop), e1 < d ∧ CI l G Y_M_lots e1 [.inr (.inr 70)] m P2 ∧ (∀ z7 m8, P2 z7 m8 → inR z7 → wfM m8 → ((x1 ≥ z7 → (∃ (e17 : Nat) (P18 : Int → MM → Prop), e17 < d ∧ CI l G Y_M_settleHeap e17 [.inr (.inr 70)] m8 P18 ∧ (∀ z23 m24, P18 z23 m24 → inR z23 → wfM m24 → (P m24)))) ∧ (¬ (x1 ≥ z7) → (Wq l G false Y_M_makeOwn d (QV P) 10 [(0, .inr (.inr 70)), (1, .inl x1)] [] m8))))) : Wq l G false Y_M_makeOwn d (QV P) 2 [(0, .inr (.inr 70)), (1, .inl x1)] [] m := by
  refine Wp.wf (fun hw _ hl hs => ?_)
  have H0 := H hw (hl _ (List.mem_of_getElem? (i := 1) rfl))
  refine Wp.iload_n 1 1 d_M_makeOwn_2 rfl rfl ?_
  refine Wp.aload_n 0 0 d_M_makeOwn_3 rfl rfl ?_
  obtain ⟨e1, P2, hd3, ho4, H5⟩ := H0
  refine Wq.VI (st := [.inl x1]) [] d_M_makeOwn_4 k_M_lots ml_M_338 rfl rfl rfl (fun h => by cases h) (Nat.le_of_ble_eq_true rfl) hd3 ho4 (fun z7 m8 hp9 hz10 hw11 => ?_)
  have H6 := H5 z7 m8 hp9 hz10 hw11
  obtain ⟨H13, H14⟩ := H6
  refine Wp.icmp_ge 56 d_M_makeOwn_7 (by decide) (fun c12 => ?_) (fun c12 => ?_)
  · have H15 := H13 c12
    refine Wp.aload_n 0 0 d_M_makeOwn_56 rfl rfl ?_
    obtain ⟨e17, P18, hd19, ho20, H21⟩ := H15
    refine Wq.VI (st := []) [] d_M_makeOwn_57 k_M_settleHeap ml_M_381 rfl rfl rfl (fun h => by cases h) (Nat.le_of_ble_eq_true rfl) hd19 ho20 (fun z23 m24 hp25 hz26 hw27 => ?_)
    have H22 := H21 z23 m24 hp25 hz26 hw27
    refine Wp.istore_n 1 [(0, .inr (.inr 70)), (1, .inl z23)] d_M_makeOwn_60 rfl (by decide) rfl ?_
    exact Wq.vret d_M_makeOwn_61 rfl H22
  · have H16 := H14 c12
    exact H16
theorem s_M_makeOwn_10 {l : Launch} {G : GT} {d : Nat} {P : MM → Prop} {m : MM} (x1 : Int)  (H : wfM m → inR x1 → (0 ≤ x1 ∧ x1 < (5 : Int)) ∧ (((m 93 x1) ≥ 0 → ((0 ≤ x1 ∧ x1 < (5 : Int)) ∧ ((0 ≤ x1 ∧ x1 < (5 : Int)) ∧ ((inR ((m 93 x1) + (m 95 x1))) ∧ ((0 ≤ x1 ∧ x1 < (5 : Int)) ∧ (∀ m14, m14 = up m 93 x1 ((m 93 x1) + (m 95 x1)) → ((inR (x1 + 1)) ∧ (Wq l G false Y_M_makeOwn d (QV P) 2 [(0, .inr (.inr 70)), (1, .inl (x1 + 1))] [] m14)))))))) ∧ (¬ ((m 93 x1) ≥ 0) → ((0 ≤ x1 ∧ x1 < (5 : Int)) ∧ ((inR ((m 93 x1) + (m 70 42))) ∧ ((0 ≤ x1 ∧ x1 < (5 : Int)) ∧ (∀ m27, m27 = up m 93 x1 ((m 93 x1) + (m 70 42)) → (Wq l G false Y_M_makeOwn d (QV P) 10 [(0, .inr (.inr 70)), (1, .inl x1)] [] m27)))))))) : Wq l G false Y_M_makeOwn d (QV P) 10 [(0, .inr (.inr 70)), (1, .inl x1)] [] m := by
  refine Wp.wf (fun hw _ hl hs => ?_)
  have H0 := H hw (hl _ (List.mem_of_getElem? (i := 1) rfl))
  refine Wp.aload_n 0 0 d_M_makeOwn_10 rfl rfl ?_
  refine Wp.getP 93 d_M_makeOwn_11 fl_M_82 rfl rfl rfl ?_
  refine Wp.iload_n 1 1 d_M_makeOwn_14 rfl rfl ?_
  obtain ⟨s1, H2⟩ := H0
  refine Wp.iald d_M_makeOwn_15 rfl (Or.inl rfl) s1.1 s1.2 ?_
  obtain ⟨H4, H5⟩ := H2
  refine Wp.if_ge 35 d_M_makeOwn_16 (by decide) (fun c3 => ?_) (fun c3 => ?_)
  · have H6 := H4 c3
    refine Wp.aload_n 0 0 d_M_makeOwn_35 rfl rfl ?_
    refine Wp.getP 93 d_M_makeOwn_36 fl_M_82 rfl rfl rfl ?_
    refine Wp.iload_n 1 1 d_M_makeOwn_39 rfl rfl ?_
    refine Wp.dup2 d_M_makeOwn_40 rfl rfl ?_
    obtain ⟨s8, H9⟩ := H6
    refine Wp.iald d_M_makeOwn_41 rfl (Or.inl rfl) s8.1 s8.2 ?_
    refine Wp.aload_n 0 0 d_M_makeOwn_42 rfl rfl ?_
    refine Wp.getP 95 d_M_makeOwn_43 fl_M_88 rfl rfl rfl ?_
    refine Wp.iload_n 1 1 d_M_makeOwn_46 rfl rfl ?_
    obtain ⟨s10, H11⟩ := H9
    refine Wp.iald d_M_makeOwn_47 rfl (Or.inl rfl) s10.1 s10.2 ?_
    obtain ⟨s12, H13⟩ := H11
    refine Wp.iadd d_M_makeOwn_48 s12 ?_
    obtain ⟨s21, H22⟩ := H13
    refine Wq.iast d_M_makeOwn_49 rfl s21.1 s21.2 (fun m14 hm15 => ?_)
    have H16 := H22 m14 hm15
    obtain ⟨s19, H20⟩ := H16
    refine Wp.iinc 1 1 [(0, .inr (.inr 70)), (1, .inl (x1 + 1))] d_M_makeOwn_50 rfl s19 (by decide) rfl ?_
    refine Wp.goto 2 d_M_makeOwn_53 (by decide) ?_
    exact H20
  · have H7 := H5 c3
    refine Wp.aload_n 0 0 d_M_makeOwn_19 rfl rfl ?_
    refine Wp.getP 93 d_M_makeOwn_20 fl_M_82 rfl rfl rfl ?_
    refine Wp.iload_n 1 1 d_M_makeOwn_23 rfl rfl ?_
    refine Wp.dup2 d_M_makeOwn_24 rfl rfl ?_
    obtain ⟨s23, H24⟩ := H7
    refine Wp.iald d_M_makeOwn_25 rfl (Or.inl rfl) s23.1 s23.2 ?_
    refine Wp.aload_n 0 0 d_M_makeOwn_26 rfl rfl ?_
    refine Wq.getI 42 rfl d_M_makeOwn_27 fl_M_354 rfl (Or.inl rfl) ?_
    obtain ⟨s25, H26⟩ := H24
    refine Wp.iadd d_M_makeOwn_30 s25 ?_
    obtain ⟨s32, H33⟩ := H26
    refine Wq.iast d_M_makeOwn_31 rfl s32.1 s32.2 (fun m27 hm28 => ?_)
    have H29 := H33 m27 hm28
    refine Wp.goto 10 d_M_makeOwn_32 (by decide) ?_
    exact H29
theorem d_M_bare_0 : decode Y_M_bare.2.1 0 = .ok (.aload_n 0, 1) := by decide +kernel
theorem d_M_bare_1 : decode Y_M_bare.2.1 1 = .ok (.iload_n 1, 1) := by decide +kernel
theorem d_M_bare_2 : decode Y_M_bare.2.1 2 = .ok (.invokevirtual 405, 3) := by decide +kernel
theorem d_M_bare_5 : decode Y_M_bare.2.1 5 = .ok (.ifCond .ne 5, 3) := by decide +kernel
theorem d_M_bare_8 : decode Y_M_bare.2.1 8 = .ok (.iconst (-1), 1) := by decide +kernel
theorem d_M_bare_9 : decode Y_M_bare.2.1 9 = .ok (.ireturn, 1) := by decide +kernel
theorem d_M_bare_10 : decode Y_M_bare.2.1 10 = .ok (.aload_n 0, 1) := by decide +kernel
theorem d_M_bare_11 : decode Y_M_bare.2.1 11 = .ok (.invokevirtual 378, 3) := by decide +kernel
theorem d_M_bare_14 : decode Y_M_bare.2.1 14 = .ok (.aload_n 0, 1) := by decide +kernel
theorem d_M_bare_15 : decode Y_M_bare.2.1 15 = .ok (.invokevirtual 453, 3) := by decide +kernel
theorem d_M_bare_18 : decode Y_M_bare.2.1 18 = .ok (.aload_n 0, 1) := by decide +kernel
theorem d_M_bare_19 : decode Y_M_bare.2.1 19 = .ok (.getfield 82, 3) := by decide +kernel
theorem d_M_bare_22 : decode Y_M_bare.2.1 22 = .ok (.iload_n 1, 1) := by decide +kernel
theorem d_M_bare_23 : decode Y_M_bare.2.1 23 = .ok (.iaload, 1) := by decide +kernel
theorem d_M_bare_24 : decode Y_M_bare.2.1 24 = .ok (.ireturn, 1) := by decide +kernel
theorem e_M_bare {l : Launch} {G : GT} {d : Nat} {P : Int → MM → Prop} {m : MM} (x1 : Int)  (H : wfM m → inR x1 → ∃ (e1 : Nat) (P2 : Int → MM → Prop), e1 < d ∧ CI l G Y_M_isPlate e1 [.inr (.inr 70), .inl x1] m P2 ∧ (∀ z7 m8, P2 z7 m8 → inR z7 → wfM m8 → ((z7 ≠ 0 → (∃ (e17 : Nat) (P18 : MM → Prop), e17 < d ∧ CV l G Y_M_layNow e17 [.inr (.inr 70)] m8 P18 ∧ (∀ m24, P18 m24 → wfM m24 → (∃ (e28 : Nat) (P29 : MM → Prop), e28 < d ∧ CV l G Y_M_makeBare e28 [.inr (.inr 70)] m24 P29 ∧ (∀ m35, P29 m35 → wfM m35 → ((0 ≤ x1 ∧ x1 < (5 : Int)) ∧ (P (m35 93 x1) m35))))))) ∧ (¬ (z7 ≠ 0) → (P (-1) m8))))) : CI l G Y_M_bare d [.inr (.inr 70), .inl x1] m P := by
  refine CI.of [(0, .inr (.inr 70)), (1, .inl x1)] k_M_bare.1 (Nat.le_of_ble_eq_true rfl) rfl (Wp.wf (fun hw _ hl hs => ?_))
  have H0 := H hw (hl _ (List.mem_of_getElem? (i := 1) rfl))
  refine Wp.aload_n 0 0 d_M_bare_0 rfl rfl ?_
  refine Wp.iload_n 1 1 d_M_bare_1 rfl rfl ?_
  obtain ⟨e1, P2, hd3, ho4, H5⟩ := H0
  refine Wq.VI (st := []) [.inl x1] d_M_bare_2 k_M_isPlate ml_M_405 rfl rfl rfl (fun h => by cases h) (Nat.le_of_ble_eq_true rfl) hd3 ho4 (fun z7 m8 hp9 hz10 hw11 => ?_)
  have H6 := H5 z7 m8 hp9 hz10 hw11
  obtain ⟨H13, H14⟩ := H6
  refine Wp.if_ne 10 d_M_bare_5 (by decide) (fun c12 => ?_) (fun c12 => ?_)
  · have H15 := H13 c12
    refine Wp.aload_n 0 0 d_M_bare_10 rfl rfl ?_
    obtain ⟨e17, P18, hd19, ho20, H21⟩ := H15
    refine Wq.VV (st := []) [] d_M_bare_11 k_M_layNow ml_M_378 rfl rfl rfl (fun h => by cases h) (Nat.le_of_ble_eq_true rfl) hd19 ho20 (fun m24 hp25 hw27 => ?_)
    have H22 := H21 m24 hp25 hw27
    refine Wp.aload_n 0 0 d_M_bare_14 rfl rfl ?_
    obtain ⟨e28, P29, hd30, ho31, H32⟩ := H22
    refine Wq.VV (st := []) [] d_M_bare_15 k_M_makeBare ml_M_453 rfl rfl rfl (fun h => by cases h) (Nat.le_of_ble_eq_true rfl) hd30 ho31 (fun m35 hp36 hw38 => ?_)
    have H33 := H32 m35 hp36 hw38
    refine Wp.aload_n 0 0 d_M_bare_18 rfl rfl ?_
    refine Wp.getP 93 d_M_bare_19 fl_M_82 rfl rfl rfl ?_
    refine Wp.iload_n 1 1 d_M_bare_22 rfl rfl ?_
    obtain ⟨s39, H40⟩ := H33
    refine Wp.iald d_M_bare_23 rfl (Or.inl rfl) s39.1 s39.2 ?_
    exact Wq.iret d_M_bare_24 rfl H40
  · have H16 := H14 c12
    refine Wp.iconst d_M_bare_8 (by decide) ?_
    exact Wq.iret d_M_bare_9 rfl H16
theorem d_M_makeBare_0 : decode Y_M_makeBare.2.1 0 = .ok (.iconst 0, 1) := by decide +kernel
theorem d_M_makeBare_1 : decode Y_M_makeBare.2.1 1 = .ok (.istore_n 1, 1) := by decide +kernel
theorem d_M_makeBare_2 : decode Y_M_makeBare.2.1 2 = .ok (.iload_n 1, 1) := by decide +kernel
theorem d_M_makeBare_3 : decode Y_M_makeBare.2.1 3 = .ok (.aload_n 0, 1) := by decide +kernel
theorem d_M_makeBare_4 : decode Y_M_makeBare.2.1 4 = .ok (.invokevirtual 338, 3) := by decide +kernel
theorem d_M_makeBare_7 : decode Y_M_makeBare.2.1 7 = .ok (.if_icmp .ge 29, 3) := by decide +kernel
theorem d_M_makeBare_10 : decode Y_M_makeBare.2.1 10 = .ok (.aload_n 0, 1) := by decide +kernel
theorem d_M_makeBare_11 : decode Y_M_makeBare.2.1 11 = .ok (.getfield 82, 3) := by decide +kernel
theorem d_M_makeBare_14 : decode Y_M_makeBare.2.1 14 = .ok (.iload_n 1, 1) := by decide +kernel
theorem d_M_makeBare_15 : decode Y_M_makeBare.2.1 15 = .ok (.aload_n 0, 1) := by decide +kernel
theorem d_M_makeBare_16 : decode Y_M_makeBare.2.1 16 = .ok (.iload_n 1, 1) := by decide +kernel
theorem d_M_makeBare_17 : decode Y_M_makeBare.2.1 17 = .ok (.invokevirtual 328, 3) := by decide +kernel
theorem d_M_makeBare_20 : decode Y_M_makeBare.2.1 20 = .ok (.iconst 1, 1) := by decide +kernel
theorem d_M_makeBare_21 : decode Y_M_makeBare.2.1 21 = .ok (.isub, 1) := by decide +kernel
theorem d_M_makeBare_22 : decode Y_M_makeBare.2.1 22 = .ok (.aload_n 0, 1) := by decide +kernel
theorem d_M_makeBare_23 : decode Y_M_makeBare.2.1 23 = .ok (.getfield 82, 3) := by decide +kernel
theorem d_M_makeBare_26 : decode Y_M_makeBare.2.1 26 = .ok (.iload_n 1, 1) := by decide +kernel
theorem d_M_makeBare_27 : decode Y_M_makeBare.2.1 27 = .ok (.iaload, 1) := by decide +kernel
theorem d_M_makeBare_28 : decode Y_M_makeBare.2.1 28 = .ok (.isub, 1) := by decide +kernel
theorem d_M_makeBare_29 : decode Y_M_makeBare.2.1 29 = .ok (.iastore, 1) := by decide +kernel
theorem d_M_makeBare_30 : decode Y_M_makeBare.2.1 30 = .ok (.iinc 1 1, 3) := by decide +kernel
theorem d_M_makeBare_33 : decode Y_M_makeBare.2.1 33 = .ok (.goto (-31), 3) := by decide +kernel
theorem d_M_makeBare_36 : decode Y_M_makeBare.2.1 36 = .ok (.aload_n 0, 1) := by decide +kernel
theorem d_M_makeBare_37 : decode Y_M_makeBare.2.1 37 = .ok (.invokevirtual 384, 3) := by decide +kernel
theorem d_M_makeBare_40 : decode Y_M_makeBare.2.1 40 = .ok (.iconst 0, 1) := by decide +kernel
theorem d_M_makeBare_41 : decode Y_M_makeBare.2.1 41 = .ok (.istore_n 1, 1) := by decide +kernel
theorem d_M_makeBare_42 : decode Y_M_makeBare.2.1 42 = .ok (.iload_n 1, 1) := by decide +kernel
theorem d_M_makeBare_43 : decode Y_M_makeBare.2.1 43 = .ok (.aload_n 0, 1) := by decide +kernel
theorem d_M_makeBare_44 : decode Y_M_makeBare.2.1 44 = .ok (.invokevirtual 338, 3) := by decide +kernel
theorem d_M_makeBare_47 : decode Y_M_makeBare.2.1 47 = .ok (.if_icmp .ge 29, 3) := by decide +kernel
theorem d_M_makeBare_50 : decode Y_M_makeBare.2.1 50 = .ok (.aload_n 0, 1) := by decide +kernel
theorem d_M_makeBare_51 : decode Y_M_makeBare.2.1 51 = .ok (.getfield 82, 3) := by decide +kernel
theorem d_M_makeBare_54 : decode Y_M_makeBare.2.1 54 = .ok (.iload_n 1, 1) := by decide +kernel
theorem d_M_makeBare_55 : decode Y_M_makeBare.2.1 55 = .ok (.aload_n 0, 1) := by decide +kernel
theorem d_M_makeBare_56 : decode Y_M_makeBare.2.1 56 = .ok (.iload_n 1, 1) := by decide +kernel
theorem d_M_makeBare_57 : decode Y_M_makeBare.2.1 57 = .ok (.invokevirtual 328, 3) := by decide +kernel
theorem d_M_makeBare_60 : decode Y_M_makeBare.2.1 60 = .ok (.iconst 1, 1) := by decide +kernel
theorem d_M_makeBare_61 : decode Y_M_makeBare.2.1 61 = .ok (.isub, 1) := by decide +kernel
theorem d_M_makeBare_62 : decode Y_M_makeBare.2.1 62 = .ok (.aload_n 0, 1) := by decide +kernel
theorem d_M_makeBare_63 : decode Y_M_makeBare.2.1 63 = .ok (.getfield 82, 3) := by decide +kernel
theorem d_M_makeBare_66 : decode Y_M_makeBare.2.1 66 = .ok (.iload_n 1, 1) := by decide +kernel
theorem d_M_makeBare_67 : decode Y_M_makeBare.2.1 67 = .ok (.iaload, 1) := by decide +kernel
theorem d_M_makeBare_68 : decode Y_M_makeBare.2.1 68 = .ok (.isub, 1) := by decide +kernel
theorem d_M_makeBare_69 : decode Y_M_makeBare.2.1 69 = .ok (.iastore, 1) := by decide +kernel
theorem d_M_makeBare_70 : decode Y_M_makeBare.2.1 70 = .ok (.iinc 1 1, 3) := by decide +kernel
theorem d_M_makeBare_73 : decode Y_M_makeBare.2.1 73 = .ok (.goto (-31), 3) := by decide +kernel
theorem d_M_makeBare_76 : decode Y_M_makeBare.2.1 76 = .ok (.return_, 1) := by decide +kernel
theorem e_M_makeBare {l : Launch} {G : GT} {d : Nat} {P : MM → Prop} {m : MM}   (H : wfM m → Wq l G false Y_M_makeBare d (QV P) 2 [(0, .inr (.inr 70)), (1, .inl 0)] [] m) : CV l G Y_M_makeBare d [.inr (.inr 70)] m P := by
  refine CV.of [(0, .inr (.inr 70))] k_M_makeBare.1 (Nat.le_of_ble_eq_true rfl) rfl (Wp.wf (fun hw _ hl hs => ?_))
  have H0 := H hw
  refine Wp.iconst d_M_makeBare_0 (by decide) ?_
  refine Wp.istore_n 1 [(0, .inr (.inr 70)), (1, .inl 0)] d_M_makeBare_1 rfl (by decide) rfl ?_
  exact H0
theorem s_M_makeBare_2 {l : Launch} {G : GT} {d : Nat} {P : MM → Prop} {m : MM} (x1 : Int)  (H : wfM m → inR x1 → ∃ (e1 : Nat) (P2 : Int → MM → Prop), e1 < d ∧ CI l G Y_M_lots e1 [.inr (.inr 70)] m P2 ∧ (∀ z7 m8, P2 z7 m8 → inR z7 → wfM m8 → ((x1 ≥ z7 → (∃ (e17 : Nat) (P18 : MM → Prop), e17 < d ∧ CV l G Y_M_makeOwn e17 [.inr (.inr 70)] m8 P18 ∧ (∀ m24, P18 m24 → wfM m24 → (Wq l G false Y_M_makeBare d (QV P) 42 [(0, .inr (.inr 70)), (1, .inl 0)] [] m24)))) ∧ (¬ (x1 ≥ z7) → (∃ (e28 : Nat) (P29 : Int → MM → Prop), e28 < d ∧ CI l G Y_M_brimOf e28 [.inr (.inr 70), .inl x1] m8 P29 ∧ (∀ z34 m35, P29 z34 m35 → inR z34 → wfM m35 → ((inR (z34 - 1)) ∧ ((0 ≤ x1 ∧ x1 < (5 : Int)) ∧ ((inR ((z34 - 1) - (m35 93 x1))) ∧ ((0 ≤ x1 ∧ x1 < (5 : Int)) ∧ (∀ m45, m45 = up m35 93 x1 ((z34 - 1) - (m35 93 x1)) → ((inR (x1 + 1)) ∧ (Wq l G false Y_M_makeBare d (QV P) 2 [(0, .inr (.inr 70)), (1, .inl (x1 + 1))] [] m45))))))))))))) : Wq l G false Y_M_makeBare d (QV P) 2 [(0, .inr (.inr 70)), (1, .inl x1)] [] m := by
  refine Wp.wf (fun hw _ hl hs => ?_)
  have H0 := H hw (hl _ (List.mem_of_getElem? (i := 1) rfl))
  refine Wp.iload_n 1 1 d_M_makeBare_2 rfl rfl ?_
  refine Wp.aload_n 0 0 d_M_makeBare_3 rfl rfl ?_
  obtain ⟨e1, P2, hd3, ho4, H5⟩ := H0
  refine Wq.VI (st := [.inl x1]) [] d_M_makeBare_4 k_M_lots ml_M_338 rfl rfl rfl (fun h => by cases h) (Nat.le_of_ble_eq_true rfl) hd3 ho4 (fun z7 m8 hp9 hz10 hw11 => ?_)
  have H6 := H5 z7 m8 hp9 hz10 hw11
  obtain ⟨H13, H14⟩ := H6
  refine Wp.icmp_ge 36 d_M_makeBare_7 (by decide) (fun c12 => ?_) (fun c12 => ?_)
  · have H15 := H13 c12
    refine Wp.aload_n 0 0 d_M_makeBare_36 rfl rfl ?_
    obtain ⟨e17, P18, hd19, ho20, H21⟩ := H15
    refine Wq.VV (st := []) [] d_M_makeBare_37 k_M_makeOwn ml_M_384 rfl rfl rfl (fun h => by cases h) (Nat.le_of_ble_eq_true rfl) hd19 ho20 (fun m24 hp25 hw27 => ?_)
    have H22 := H21 m24 hp25 hw27
    refine Wp.iconst d_M_makeBare_40 (by decide) ?_
    refine Wp.istore_n 1 [(0, .inr (.inr 70)), (1, .inl 0)] d_M_makeBare_41 rfl (by decide) rfl ?_
    exact H22
  · have H16 := H14 c12
    refine Wp.aload_n 0 0 d_M_makeBare_10 rfl rfl ?_
    refine Wp.getP 93 d_M_makeBare_11 fl_M_82 rfl rfl rfl ?_
    refine Wp.iload_n 1 1 d_M_makeBare_14 rfl rfl ?_
    refine Wp.aload_n 0 0 d_M_makeBare_15 rfl rfl ?_
    refine Wp.iload_n 1 1 d_M_makeBare_16 rfl rfl ?_
    obtain ⟨e28, P29, hd30, ho31, H32⟩ := H16
    refine Wq.VI (st := [.inl x1, .inr (.inr 93)]) [.inl x1] d_M_makeBare_17 k_M_brimOf ml_M_328 rfl rfl rfl (fun h => by cases h) (Nat.le_of_ble_eq_true rfl) hd30 ho31 (fun z34 m35 hp36 hz37 hw38 => ?_)
    have H33 := H32 z34 m35 hp36 hz37 hw38
    refine Wp.iconst d_M_makeBare_20 (by decide) ?_
    obtain ⟨s39, H40⟩ := H33
    refine Wp.isub d_M_makeBare_21 s39 ?_
    refine Wp.aload_n 0 0 d_M_makeBare_22 rfl rfl ?_
    refine Wp.getP 93 d_M_makeBare_23 fl_M_82 rfl rfl rfl ?_
    refine Wp.iload_n 1 1 d_M_makeBare_26 rfl rfl ?_
    obtain ⟨s41, H42⟩ := H40
    refine Wp.iald d_M_makeBare_27 rfl (Or.inl rfl) s41.1 s41.2 ?_
    obtain ⟨s43, H44⟩ := H42
    refine Wp.isub d_M_makeBare_28 s43 ?_
    obtain ⟨s52, H53⟩ := H44
    refine Wq.iast d_M_makeBare_29 rfl s52.1 s52.2 (fun m45 hm46 => ?_)
    have H47 := H53 m45 hm46
    obtain ⟨s50, H51⟩ := H47
    refine Wp.iinc 1 1 [(0, .inr (.inr 70)), (1, .inl (x1 + 1))] d_M_makeBare_30 rfl s50 (by decide) rfl ?_
    refine Wp.goto 2 d_M_makeBare_33 (by decide) ?_
    exact H51
theorem s_M_makeBare_42 {l : Launch} {G : GT} {d : Nat} {P : MM → Prop} {m : MM} (x1 : Int)  (H : wfM m → inR x1 → ∃ (e1 : Nat) (P2 : Int → MM → Prop), e1 < d ∧ CI l G Y_M_lots e1 [.inr (.inr 70)] m P2 ∧ (∀ z7 m8, P2 z7 m8 → inR z7 → wfM m8 → ((x1 ≥ z7 → (P m8)) ∧ (¬ (x1 ≥ z7) → (∃ (e17 : Nat) (P18 : Int → MM → Prop), e17 < d ∧ CI l G Y_M_brimOf e17 [.inr (.inr 70), .inl x1] m8 P18 ∧ (∀ z23 m24, P18 z23 m24 → inR z23 → wfM m24 → ((inR (z23 - 1)) ∧ ((0 ≤ x1 ∧ x1 < (5 : Int)) ∧ ((inR ((z23 - 1) - (m24 93 x1))) ∧ ((0 ≤ x1 ∧ x1 < (5 : Int)) ∧ (∀ m34, m34 = up m24 93 x1 ((z23 - 1) - (m24 93 x1)) → ((inR (x1 + 1)) ∧ (Wq l G false Y_M_makeBare d (QV P) 42 [(0, .inr (.inr 70)), (1, .inl (x1 + 1))] [] m34))))))))))))) : Wq l G false Y_M_makeBare d (QV P) 42 [(0, .inr (.inr 70)), (1, .inl x1)] [] m := by
  refine Wp.wf (fun hw _ hl hs => ?_)
  have H0 := H hw (hl _ (List.mem_of_getElem? (i := 1) rfl))
  refine Wp.iload_n 1 1 d_M_makeBare_42 rfl rfl ?_
  refine Wp.aload_n 0 0 d_M_makeBare_43 rfl rfl ?_
  obtain ⟨e1, P2, hd3, ho4, H5⟩ := H0
  refine Wq.VI (st := [.inl x1]) [] d_M_makeBare_44 k_M_lots ml_M_338 rfl rfl rfl (fun h => by cases h) (Nat.le_of_ble_eq_true rfl) hd3 ho4 (fun z7 m8 hp9 hz10 hw11 => ?_)
  have H6 := H5 z7 m8 hp9 hz10 hw11
  obtain ⟨H13, H14⟩ := H6
  refine Wp.icmp_ge 76 d_M_makeBare_47 (by decide) (fun c12 => ?_) (fun c12 => ?_)
  · have H15 := H13 c12
    exact Wq.vret d_M_makeBare_76 rfl H15
  · have H16 := H14 c12
    refine Wp.aload_n 0 0 d_M_makeBare_50 rfl rfl ?_
    refine Wp.getP 93 d_M_makeBare_51 fl_M_82 rfl rfl rfl ?_
    refine Wp.iload_n 1 1 d_M_makeBare_54 rfl rfl ?_
    refine Wp.aload_n 0 0 d_M_makeBare_55 rfl rfl ?_
    refine Wp.iload_n 1 1 d_M_makeBare_56 rfl rfl ?_
    obtain ⟨e17, P18, hd19, ho20, H21⟩ := H16
    refine Wq.VI (st := [.inl x1, .inr (.inr 93)]) [.inl x1] d_M_makeBare_57 k_M_brimOf ml_M_328 rfl rfl rfl (fun h => by cases h) (Nat.le_of_ble_eq_true rfl) hd19 ho20 (fun z23 m24 hp25 hz26 hw27 => ?_)
    have H22 := H21 z23 m24 hp25 hz26 hw27
    refine Wp.iconst d_M_makeBare_60 (by decide) ?_
    obtain ⟨s28, H29⟩ := H22
    refine Wp.isub d_M_makeBare_61 s28 ?_
    refine Wp.aload_n 0 0 d_M_makeBare_62 rfl rfl ?_
    refine Wp.getP 93 d_M_makeBare_63 fl_M_82 rfl rfl rfl ?_
    refine Wp.iload_n 1 1 d_M_makeBare_66 rfl rfl ?_
    obtain ⟨s30, H31⟩ := H29
    refine Wp.iald d_M_makeBare_67 rfl (Or.inl rfl) s30.1 s30.2 ?_
    obtain ⟨s32, H33⟩ := H31
    refine Wp.isub d_M_makeBare_68 s32 ?_
    obtain ⟨s41, H42⟩ := H33
    refine Wq.iast d_M_makeBare_69 rfl s41.1 s41.2 (fun m34 hm35 => ?_)
    have H36 := H42 m34 hm35
    obtain ⟨s39, H40⟩ := H36
    refine Wp.iinc 1 1 [(0, .inr (.inr 70)), (1, .inl (x1 + 1))] d_M_makeBare_70 rfl s39 (by decide) rfl ?_
    refine Wp.goto 42 d_M_makeBare_73 (by decide) ?_
    exact H40
