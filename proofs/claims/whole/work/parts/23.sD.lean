theorem d_S_feed_0 : decode Y_S_feed.2.1 0 = .ok (.aload_n 0, 1) := by decide +kernel
theorem d_S_feed_1 : decode Y_S_feed.2.1 1 = .ok (.getfield 98, 3) := by decide +kernel
theorem d_S_feed_4 : decode Y_S_feed.2.1 4 = .ok (.bipush 20, 2) := by decide +kernel
theorem d_S_feed_6 : decode Y_S_feed.2.1 6 = .ok (.iadd, 1) := by decide +kernel
theorem d_S_feed_7 : decode Y_S_feed.2.1 7 = .ok (.sipush 1600, 3) := by decide +kernel
theorem d_S_feed_10 : decode Y_S_feed.2.1 10 = .ok (.if_icmp .le 5, 3) := by decide +kernel
theorem d_S_feed_13 : decode Y_S_feed.2.1 13 = .ok (.iconst (-1), 1) := by decide +kernel
theorem d_S_feed_14 : decode Y_S_feed.2.1 14 = .ok (.ireturn, 1) := by decide +kernel
theorem d_S_feed_15 : decode Y_S_feed.2.1 15 = .ok (.aload_n 0, 1) := by decide +kernel
theorem d_S_feed_16 : decode Y_S_feed.2.1 16 = .ok (.iload_n 1, 1) := by decide +kernel
theorem d_S_feed_17 : decode Y_S_feed.2.1 17 = .ok (.invokevirtual 101, 3) := by decide +kernel
theorem d_S_feed_20 : decode Y_S_feed.2.1 20 = .ok (.aload_n 0, 1) := by decide +kernel
theorem d_S_feed_21 : decode Y_S_feed.2.1 21 = .ok (.iload_n 2, 1) := by decide +kernel
theorem d_S_feed_22 : decode Y_S_feed.2.1 22 = .ok (.invokevirtual 101, 3) := by decide +kernel
theorem d_S_feed_25 : decode Y_S_feed.2.1 25 = .ok (.aload_n 0, 1) := by decide +kernel
theorem d_S_feed_26 : decode Y_S_feed.2.1 26 = .ok (.iload_n 3, 1) := by decide +kernel
theorem d_S_feed_27 : decode Y_S_feed.2.1 27 = .ok (.invokevirtual 101, 3) := by decide +kernel
theorem d_S_feed_30 : decode Y_S_feed.2.1 30 = .ok (.aload_n 0, 1) := by decide +kernel
theorem d_S_feed_31 : decode Y_S_feed.2.1 31 = .ok (.iload 4, 2) := by decide +kernel
theorem d_S_feed_33 : decode Y_S_feed.2.1 33 = .ok (.invokevirtual 101, 3) := by decide +kernel
theorem d_S_feed_36 : decode Y_S_feed.2.1 36 = .ok (.aload_n 0, 1) := by decide +kernel
theorem d_S_feed_37 : decode Y_S_feed.2.1 37 = .ok (.iload 5, 2) := by decide +kernel
theorem d_S_feed_39 : decode Y_S_feed.2.1 39 = .ok (.invokevirtual 101, 3) := by decide +kernel
theorem d_S_feed_42 : decode Y_S_feed.2.1 42 = .ok (.aload_n 0, 1) := by decide +kernel
theorem d_S_feed_43 : decode Y_S_feed.2.1 43 = .ok (.getfield 98, 3) := by decide +kernel
theorem d_S_feed_46 : decode Y_S_feed.2.1 46 = .ok (.ireturn, 1) := by decide +kernel
theorem e_S_feed {l : Launch} {G : GT} {d : Nat} {P : Int → MM → Prop} {m : MM} (x1 : Int) (x2 : Int) (x3 : Int) (x4 : Int) (x5 : Int)  (H : wfM m → inR x1 → inR x2 → inR x3 → inR x4 → inR x5 → (inR ((m 0 1) + 20)) ∧ ((((m 0 1) + 20) ≤ 1600 → (∃ (e8 : Nat) (P9 : MM → Prop), e8 < d ∧ CV l G Y_S_putBytes e8 [.inr (.inr 0), .inl x1] m P9 ∧ (∀ m15, P9 m15 → wfM m15 → (∃ (e19 : Nat) (P20 : MM → Prop), e19 < d ∧ CV l G Y_S_putBytes e19 [.inr (.inr 0), .inl x2] m15 P20 ∧ (∀ m26, P20 m26 → wfM m26 → (∃ (e30 : Nat) (P31 : MM → Prop), e30 < d ∧ CV l G Y_S_putBytes e30 [.inr (.inr 0), .inl x3] m26 P31 ∧ (∀ m37, P31 m37 → wfM m37 → (∃ (e41 : Nat) (P42 : MM → Prop), e41 < d ∧ CV l G Y_S_putBytes e41 [.inr (.inr 0), .inl x4] m37 P42 ∧ (∀ m48, P42 m48 → wfM m48 → (∃ (e52 : Nat) (P53 : MM → Prop), e52 < d ∧ CV l G Y_S_putBytes e52 [.inr (.inr 0), .inl x5] m48 P53 ∧ (∀ m59, P53 m59 → wfM m59 → (P (m59 0 1) m59)))))))))))) ∧ (¬ (((m 0 1) + 20) ≤ 1600) → (P (-1) m)))) : CI l G Y_S_feed d [.inr (.inr 0), .inl x1, .inl x2, .inl x3, .inl x4, .inl x5] m P := by
  refine CI.of [(0, .inr (.inr 0)), (1, .inl x1), (2, .inl x2), (3, .inl x3), (4, .inl x4), (5, .inl x5)] k_S_feed.1 (Nat.le_of_ble_eq_true rfl) rfl (Wp.wf (fun hw _ hl hs => ?_))
  have H0 := H hw (hl _ (List.mem_of_getElem? (i := 1) rfl)) (hl _ (List.mem_of_getElem? (i := 2) rfl)) (hl _ (List.mem_of_getElem? (i := 3) rfl)) (hl _ (List.mem_of_getElem? (i := 4) rfl)) (hl _ (List.mem_of_getElem? (i := 5) rfl))
  refine Wp.aload_n 0 0 d_S_feed_0 rfl rfl ?_
  refine Wq.getI 1 rfl d_S_feed_1 fl_S_98 rfl (Or.inl rfl) ?_
  refine Wp.bipush d_S_feed_4 (by decide) (by decide) ?_
  obtain ⟨s1, H2⟩ := H0
  refine Wp.iadd d_S_feed_6 s1 ?_
  refine Wp.sipush d_S_feed_7 (by decide) (by decide) ?_
  obtain ⟨H4, H5⟩ := H2
  refine Wp.icmp_le 15 d_S_feed_10 (by decide) (fun c3 => ?_) (fun c3 => ?_)
  · have H6 := H4 c3
    refine Wp.aload_n 0 0 d_S_feed_15 rfl rfl ?_
    refine Wp.iload_n 1 1 d_S_feed_16 rfl rfl ?_
    obtain ⟨e8, P9, hd10, ho11, H12⟩ := H6
    refine Wq.VV (st := []) [.inl x1] d_S_feed_17 k_S_putBytes ml_S_101 rfl rfl rfl (fun h => by cases h) (Nat.le_of_ble_eq_true rfl) hd10 ho11 (fun m15 hp16 hw18 => ?_)
    have H13 := H12 m15 hp16 hw18
    refine Wp.aload_n 0 0 d_S_feed_20 rfl rfl ?_
    refine Wp.iload_n 2 2 d_S_feed_21 rfl rfl ?_
    obtain ⟨e19, P20, hd21, ho22, H23⟩ := H13
    refine Wq.VV (st := []) [.inl x2] d_S_feed_22 k_S_putBytes ml_S_101 rfl rfl rfl (fun h => by cases h) (Nat.le_of_ble_eq_true rfl) hd21 ho22 (fun m26 hp27 hw29 => ?_)
    have H24 := H23 m26 hp27 hw29
    refine Wp.aload_n 0 0 d_S_feed_25 rfl rfl ?_
    refine Wp.iload_n 3 3 d_S_feed_26 rfl rfl ?_
    obtain ⟨e30, P31, hd32, ho33, H34⟩ := H24
    refine Wq.VV (st := []) [.inl x3] d_S_feed_27 k_S_putBytes ml_S_101 rfl rfl rfl (fun h => by cases h) (Nat.le_of_ble_eq_true rfl) hd32 ho33 (fun m37 hp38 hw40 => ?_)
    have H35 := H34 m37 hp38 hw40
    refine Wp.aload_n 0 0 d_S_feed_30 rfl rfl ?_
    refine Wp.iload 4 4 d_S_feed_31 rfl ?_
    obtain ⟨e41, P42, hd43, ho44, H45⟩ := H35
    refine Wq.VV (st := []) [.inl x4] d_S_feed_33 k_S_putBytes ml_S_101 rfl rfl rfl (fun h => by cases h) (Nat.le_of_ble_eq_true rfl) hd43 ho44 (fun m48 hp49 hw51 => ?_)
    have H46 := H45 m48 hp49 hw51
    refine Wp.aload_n 0 0 d_S_feed_36 rfl rfl ?_
    refine Wp.iload 5 5 d_S_feed_37 rfl ?_
    obtain ⟨e52, P53, hd54, ho55, H56⟩ := H46
    refine Wq.VV (st := []) [.inl x5] d_S_feed_39 k_S_putBytes ml_S_101 rfl rfl rfl (fun h => by cases h) (Nat.le_of_ble_eq_true rfl) hd54 ho55 (fun m59 hp60 hw62 => ?_)
    have H57 := H56 m59 hp60 hw62
    refine Wp.aload_n 0 0 d_S_feed_42 rfl rfl ?_
    refine Wq.getI 1 rfl d_S_feed_43 fl_S_98 rfl (Or.inl rfl) ?_
    exact Wq.iret d_S_feed_46 rfl H57
  · have H7 := H5 c3
    refine Wp.iconst d_S_feed_13 (by decide) ?_
    exact Wq.iret d_S_feed_14 rfl H7
theorem d_S_putBytes_0 : decode Y_S_putBytes.2.1 0 = .ok (.bipush 24, 2) := by decide +kernel
theorem d_S_putBytes_2 : decode Y_S_putBytes.2.1 2 = .ok (.istore_n 2, 1) := by decide +kernel
theorem d_S_putBytes_3 : decode Y_S_putBytes.2.1 3 = .ok (.iload_n 2, 1) := by decide +kernel
theorem d_S_putBytes_4 : decode Y_S_putBytes.2.1 4 = .ok (.ifCond .lt 45, 3) := by decide +kernel
theorem d_S_putBytes_7 : decode Y_S_putBytes.2.1 7 = .ok (.aload_n 0, 1) := by decide +kernel
theorem d_S_putBytes_8 : decode Y_S_putBytes.2.1 8 = .ok (.getfield 98, 3) := by decide +kernel
theorem d_S_putBytes_11 : decode Y_S_putBytes.2.1 11 = .ok (.sipush 1600, 3) := by decide +kernel
theorem d_S_putBytes_14 : decode Y_S_putBytes.2.1 14 = .ok (.if_icmp .ge 35, 3) := by decide +kernel
theorem d_S_putBytes_17 : decode Y_S_putBytes.2.1 17 = .ok (.aload_n 0, 1) := by decide +kernel
theorem d_S_putBytes_18 : decode Y_S_putBytes.2.1 18 = .ok (.getfield 9, 3) := by decide +kernel
theorem d_S_putBytes_21 : decode Y_S_putBytes.2.1 21 = .ok (.aload_n 0, 1) := by decide +kernel
theorem d_S_putBytes_22 : decode Y_S_putBytes.2.1 22 = .ok (.getfield 98, 3) := by decide +kernel
theorem d_S_putBytes_25 : decode Y_S_putBytes.2.1 25 = .ok (.iload_n 1, 1) := by decide +kernel
theorem d_S_putBytes_26 : decode Y_S_putBytes.2.1 26 = .ok (.iload_n 2, 1) := by decide +kernel
theorem d_S_putBytes_27 : decode Y_S_putBytes.2.1 27 = .ok (.iushr, 1) := by decide +kernel
theorem d_S_putBytes_28 : decode Y_S_putBytes.2.1 28 = .ok (.sipush 255, 3) := by decide +kernel
theorem d_S_putBytes_31 : decode Y_S_putBytes.2.1 31 = .ok (.iand, 1) := by decide +kernel
theorem d_S_putBytes_32 : decode Y_S_putBytes.2.1 32 = .ok (.iastore, 1) := by decide +kernel
theorem d_S_putBytes_33 : decode Y_S_putBytes.2.1 33 = .ok (.aload_n 0, 1) := by decide +kernel
theorem d_S_putBytes_34 : decode Y_S_putBytes.2.1 34 = .ok (.dup, 1) := by decide +kernel
theorem d_S_putBytes_35 : decode Y_S_putBytes.2.1 35 = .ok (.getfield 98, 3) := by decide +kernel
theorem d_S_putBytes_38 : decode Y_S_putBytes.2.1 38 = .ok (.iconst 1, 1) := by decide +kernel
theorem d_S_putBytes_39 : decode Y_S_putBytes.2.1 39 = .ok (.iadd, 1) := by decide +kernel
theorem d_S_putBytes_40 : decode Y_S_putBytes.2.1 40 = .ok (.putfield 98, 3) := by decide +kernel
theorem d_S_putBytes_43 : decode Y_S_putBytes.2.1 43 = .ok (.iinc 2 (-8), 3) := by decide +kernel
theorem d_S_putBytes_46 : decode Y_S_putBytes.2.1 46 = .ok (.goto (-43), 3) := by decide +kernel
theorem d_S_putBytes_49 : decode Y_S_putBytes.2.1 49 = .ok (.return_, 1) := by decide +kernel
theorem e_S_putBytes {l : Launch} {G : GT} {d : Nat} {P : MM → Prop} {m : MM} (x1 : Int)  (H : wfM m → inR x1 → Wq l G false Y_S_putBytes d (QV P) 3 [(0, .inr (.inr 0)), (1, .inl x1), (2, .inl 24)] [] m) : CV l G Y_S_putBytes d [.inr (.inr 0), .inl x1] m P := by
  refine CV.of [(0, .inr (.inr 0)), (1, .inl x1)] k_S_putBytes.1 (Nat.le_of_ble_eq_true rfl) rfl (Wp.wf (fun hw _ hl hs => ?_))
  have H0 := H hw (hl _ (List.mem_of_getElem? (i := 1) rfl))
  refine Wp.bipush d_S_putBytes_0 (by decide) (by decide) ?_
  refine Wp.istore_n 2 [(0, .inr (.inr 0)), (1, .inl x1), (2, .inl 24)] d_S_putBytes_2 rfl (by decide) rfl ?_
  exact H0
theorem s_S_putBytes_3 {l : Launch} {G : GT} {d : Nat} {P : MM → Prop} {m : MM} (x1 : Int) (x2 : Int)  (H : wfM m → inR x1 → inR x2 → (x2 < 0 → (P m)) ∧ (¬ (x2 < 0) → (((m 0 1) ≥ 1600 → (P m)) ∧ (¬ ((m 0 1) ≥ 1600) → ((0 ≤ (m 0 1) ∧ (m 0 1) < (1600 : Int)) ∧ (∀ m11, m11 = up m 1 (m 0 1) (bAnd (bUshr x1 x2) 255) → ((inR ((m11 0 1) + 1)) ∧ (∀ m18, m18 = up m11 0 1 ((m11 0 1) + 1) → ((inR (x2 + (-8))) ∧ (Wq l G false Y_S_putBytes d (QV P) 3 [(0, .inr (.inr 0)), (1, .inl x1), (2, .inl (x2 + (-8)))] [] m18)))))))))) : Wq l G false Y_S_putBytes d (QV P) 3 [(0, .inr (.inr 0)), (1, .inl x1), (2, .inl x2)] [] m := by
  refine Wp.wf (fun hw _ hl hs => ?_)
  have H0 := H hw (hl _ (List.mem_of_getElem? (i := 1) rfl)) (hl _ (List.mem_of_getElem? (i := 2) rfl))
  refine Wp.iload_n 2 2 d_S_putBytes_3 rfl rfl ?_
  obtain ⟨H2, H3⟩ := H0
  refine Wp.if_lt 49 d_S_putBytes_4 (by decide) (fun c1 => ?_) (fun c1 => ?_)
  · have H4 := H2 c1
    exact Wq.vret d_S_putBytes_49 rfl H4
  · have H5 := H3 c1
    refine Wp.aload_n 0 0 d_S_putBytes_7 rfl rfl ?_
    refine Wq.getI 1 rfl d_S_putBytes_8 fl_S_98 rfl (Or.inl rfl) ?_
    refine Wp.sipush d_S_putBytes_11 (by decide) (by decide) ?_
    obtain ⟨H7, H8⟩ := H5
    refine Wp.icmp_ge 49 d_S_putBytes_14 (by decide) (fun c6 => ?_) (fun c6 => ?_)
    · have H9 := H7 c6
      exact Wq.vret d_S_putBytes_49 rfl H9
    · have H10 := H8 c6
      refine Wp.aload_n 0 0 d_S_putBytes_17 rfl rfl ?_
      refine Wp.getP 1 d_S_putBytes_18 fl_S_9 rfl rfl rfl ?_
      refine Wp.aload_n 0 0 d_S_putBytes_21 rfl rfl ?_
      refine Wq.getI 1 rfl d_S_putBytes_22 fl_S_98 rfl (Or.inl rfl) ?_
      refine Wp.iload_n 1 1 d_S_putBytes_25 rfl rfl ?_
      refine Wp.iload_n 2 2 d_S_putBytes_26 rfl rfl ?_
      refine Wp.iushr d_S_putBytes_27 ?_
      refine Wp.sipush d_S_putBytes_28 (by decide) (by decide) ?_
      refine Wp.iand d_S_putBytes_31 ?_
      obtain ⟨s23, H24⟩ := H10
      refine Wq.iast d_S_putBytes_32 rfl s23.1 s23.2 (fun m11 hm12 => ?_)
      have H13 := H24 m11 hm12
      refine Wp.aload_n 0 0 d_S_putBytes_33 rfl rfl ?_
      refine Wp.dup d_S_putBytes_34 rfl ?_
      refine Wq.getI 1 rfl d_S_putBytes_35 fl_S_98 rfl (Or.inl rfl) ?_
      refine Wp.iconst d_S_putBytes_38 (by decide) ?_
      obtain ⟨s16, H17⟩ := H13
      refine Wp.iadd d_S_putBytes_39 s16 ?_
      refine Wq.putI 1 rfl d_S_putBytes_40 fl_S_98 (fun _ _ _ h => by cases h; rfl) rfl rfl rfl (fun m18 hm19 => ?_)
      have H20 := H17 m18 hm19
      obtain ⟨s21, H22⟩ := H20
      refine Wp.iinc 2 2 [(0, .inr (.inr 0)), (1, .inl x1), (2, .inl (x2 + (-8)))] d_S_putBytes_43 rfl s21 (by decide) rfl ?_
      refine Wp.goto 3 d_S_putBytes_46 (by decide) ?_
      exact H22
theorem d_S_end_0 : decode Y_S_end.2.1 0 = .ok (.iload_n 1, 1) := by decide +kernel
theorem d_S_end_1 : decode Y_S_end.2.1 1 = .ok (.ifCond .lt 11, 3) := by decide +kernel
theorem d_S_end_4 : decode Y_S_end.2.1 4 = .ok (.iload_n 1, 1) := by decide +kernel
theorem d_S_end_5 : decode Y_S_end.2.1 5 = .ok (.aload_n 0, 1) := by decide +kernel
theorem d_S_end_6 : decode Y_S_end.2.1 6 = .ok (.getfield 98, 3) := by decide +kernel
theorem d_S_end_9 : decode Y_S_end.2.1 9 = .ok (.if_icmp .le 5, 3) := by decide +kernel
theorem d_S_end_12 : decode Y_S_end.2.1 12 = .ok (.iconst (-1), 1) := by decide +kernel
theorem d_S_end_13 : decode Y_S_end.2.1 13 = .ok (.ireturn, 1) := by decide +kernel
theorem d_S_end_14 : decode Y_S_end.2.1 14 = .ok (.aload_n 0, 1) := by decide +kernel
theorem d_S_end_15 : decode Y_S_end.2.1 15 = .ok (.iload_n 1, 1) := by decide +kernel
theorem d_S_end_16 : decode Y_S_end.2.1 16 = .ok (.putfield 98, 3) := by decide +kernel
theorem d_S_end_19 : decode Y_S_end.2.1 19 = .ok (.iload_n 1, 1) := by decide +kernel
theorem d_S_end_20 : decode Y_S_end.2.1 20 = .ok (.ireturn, 1) := by decide +kernel
theorem e_S_end {l : Launch} {G : GT} {d : Nat} {P : Int → MM → Prop} {m : MM} (x1 : Int)  (H : wfM m → inR x1 → (x1 < 0 → (P (-1) m)) ∧ (¬ (x1 < 0) → ((x1 ≤ (m 0 1) → (∀ m11, m11 = up m 0 1 x1 → (P x1 m11))) ∧ (¬ (x1 ≤ (m 0 1)) → (P (-1) m))))) : CI l G Y_S_end d [.inr (.inr 0), .inl x1] m P := by
  refine CI.of [(0, .inr (.inr 0)), (1, .inl x1)] k_S_end.1 (Nat.le_of_ble_eq_true rfl) rfl (Wp.wf (fun hw _ hl hs => ?_))
  have H0 := H hw (hl _ (List.mem_of_getElem? (i := 1) rfl))
  refine Wp.iload_n 1 1 d_S_end_0 rfl rfl ?_
  obtain ⟨H2, H3⟩ := H0
  refine Wp.if_lt 12 d_S_end_1 (by decide) (fun c1 => ?_) (fun c1 => ?_)
  · have H4 := H2 c1
    refine Wp.iconst d_S_end_12 (by decide) ?_
    exact Wq.iret d_S_end_13 rfl H4
  · have H5 := H3 c1
    refine Wp.iload_n 1 1 d_S_end_4 rfl rfl ?_
    refine Wp.aload_n 0 0 d_S_end_5 rfl rfl ?_
    refine Wq.getI 1 rfl d_S_end_6 fl_S_98 rfl (Or.inl rfl) ?_
    obtain ⟨H7, H8⟩ := H5
    refine Wp.icmp_le 14 d_S_end_9 (by decide) (fun c6 => ?_) (fun c6 => ?_)
    · have H9 := H7 c6
      refine Wp.aload_n 0 0 d_S_end_14 rfl rfl ?_
      refine Wp.iload_n 1 1 d_S_end_15 rfl rfl ?_
      refine Wq.putI 1 rfl d_S_end_16 fl_S_98 (fun _ _ _ h => by cases h; rfl) rfl rfl rfl (fun m11 hm12 => ?_)
      have H13 := H9 m11 hm12
      refine Wp.iload_n 1 1 d_S_end_19 rfl rfl ?_
      exact Wq.iret d_S_end_20 rfl H13
    · have H10 := H8 c6
      refine Wp.iconst d_S_end_12 (by decide) ?_
      exact Wq.iret d_S_end_13 rfl H10
theorem d_S_table_0 : decode Y_S_table.2.1 0 = .ok (.aload_n 0, 1) := by decide +kernel
theorem d_S_table_1 : decode Y_S_table.2.1 1 = .ok (.getfield 16, 3) := by decide +kernel
theorem d_S_table_4 : decode Y_S_table.2.1 4 = .ok (.aload_n 0, 1) := by decide +kernel
theorem d_S_table_5 : decode Y_S_table.2.1 5 = .ok (.getfield 9, 3) := by decide +kernel
theorem d_S_table_8 : decode Y_S_table.2.1 8 = .ok (.aload_n 0, 1) := by decide +kernel
theorem d_S_table_9 : decode Y_S_table.2.1 9 = .ok (.getfield 98, 3) := by decide +kernel
theorem d_S_table_12 : decode Y_S_table.2.1 12 = .ok (.aload_n 0, 1) := by decide +kernel
theorem d_S_table_13 : decode Y_S_table.2.1 13 = .ok (.getfield 31, 3) := by decide +kernel
theorem d_S_table_16 : decode Y_S_table.2.1 16 = .ok (.invokevirtual 105, 3) := by decide +kernel
theorem d_S_table_19 : decode Y_S_table.2.1 19 = .ok (.istore_n 1, 1) := by decide +kernel
theorem d_S_table_20 : decode Y_S_table.2.1 20 = .ok (.aload_n 0, 1) := by decide +kernel
theorem d_S_table_21 : decode Y_S_table.2.1 21 = .ok (.aload_n 0, 1) := by decide +kernel
theorem d_S_table_22 : decode Y_S_table.2.1 22 = .ok (.getfield 16, 3) := by decide +kernel
theorem d_S_table_25 : decode Y_S_table.2.1 25 = .ok (.getfield 109, 3) := by decide +kernel
theorem d_S_table_28 : decode Y_S_table.2.1 28 = .ok (.putfield 112, 3) := by decide +kernel
theorem d_S_table_31 : decode Y_S_table.2.1 31 = .ok (.aload_n 0, 1) := by decide +kernel
theorem d_S_table_32 : decode Y_S_table.2.1 32 = .ok (.aload_n 0, 1) := by decide +kernel
theorem d_S_table_33 : decode Y_S_table.2.1 33 = .ok (.getfield 16, 3) := by decide +kernel
theorem d_S_table_36 : decode Y_S_table.2.1 36 = .ok (.getfield 115, 3) := by decide +kernel
theorem d_S_table_39 : decode Y_S_table.2.1 39 = .ok (.putfield 20, 3) := by decide +kernel
theorem d_S_table_42 : decode Y_S_table.2.1 42 = .ok (.aload_n 0, 1) := by decide +kernel
theorem d_S_table_43 : decode Y_S_table.2.1 43 = .ok (.iconst 0, 1) := by decide +kernel
theorem d_S_table_44 : decode Y_S_table.2.1 44 = .ok (.putfield 98, 3) := by decide +kernel
theorem d_S_table_47 : decode Y_S_table.2.1 47 = .ok (.iload_n 1, 1) := by decide +kernel
theorem d_S_table_48 : decode Y_S_table.2.1 48 = .ok (.ifCond .ne 5, 3) := by decide +kernel
theorem d_S_table_51 : decode Y_S_table.2.1 51 = .ok (.iconst (-1), 1) := by decide +kernel
theorem d_S_table_52 : decode Y_S_table.2.1 52 = .ok (.ireturn, 1) := by decide +kernel
theorem d_S_table_53 : decode Y_S_table.2.1 53 = .ok (.aload_n 0, 1) := by decide +kernel
theorem d_S_table_54 : decode Y_S_table.2.1 54 = .ok (.getfield 27, 3) := by decide +kernel
theorem d_S_table_57 : decode Y_S_table.2.1 57 = .ok (.astore_n 2, 1) := by decide +kernel
theorem d_S_table_58 : decode Y_S_table.2.1 58 = .ok (.aload_n 0, 1) := by decide +kernel
theorem d_S_table_59 : decode Y_S_table.2.1 59 = .ok (.aload_n 0, 1) := by decide +kernel
theorem d_S_table_60 : decode Y_S_table.2.1 60 = .ok (.getfield 31, 3) := by decide +kernel
theorem d_S_table_63 : decode Y_S_table.2.1 63 = .ok (.putfield 27, 3) := by decide +kernel
theorem d_S_table_66 : decode Y_S_table.2.1 66 = .ok (.aload_n 0, 1) := by decide +kernel
theorem d_S_table_67 : decode Y_S_table.2.1 67 = .ok (.aload_n 2, 1) := by decide +kernel
theorem d_S_table_68 : decode Y_S_table.2.1 68 = .ok (.putfield 31, 3) := by decide +kernel
theorem d_S_table_71 : decode Y_S_table.2.1 71 = .ok (.aload_n 0, 1) := by decide +kernel
theorem d_S_table_72 : decode Y_S_table.2.1 72 = .ok (.invokevirtual 116, 3) := by decide +kernel
theorem d_S_table_75 : decode Y_S_table.2.1 75 = .ok (.aload_n 0, 1) := by decide +kernel
theorem d_S_table_76 : decode Y_S_table.2.1 76 = .ok (.getfield 27, 3) := by decide +kernel
theorem d_S_table_79 : decode Y_S_table.2.1 79 = .ok (.getfield 119, 3) := by decide +kernel
theorem d_S_table_82 : decode Y_S_table.2.1 82 = .ok (.ireturn, 1) := by decide +kernel
theorem e_S_table {l : Launch} {G : GT} {d : Nat} {P : Int → MM → Prop} {m : MM}   (H : wfM m → ∃ b1 : Nat, m 0 6 = b1 ∧ isB b1 ∧ (∃ (e5 : Nat) (P6 : Int → MM → Prop), e5 < d ∧ CI l G Y_Reader_read e5 [.inr (.inr 2), .inr (.inr 1), .inl (m 0 1), .inr (.inr b1)] m P6 ∧ (∀ z11 m12, P6 z11 m12 → inR z11 → wfM m12 → (∀ m16, m16 = up m12 0 3 (m12 2 6) → (∀ m19, m19 = up m16 0 4 (m16 2 7) → (∀ m22, m22 = up m19 0 1 0 → ((z11 ≠ 0 → (∃ b30 : Nat, m22 0 5 = b30 ∧ isB b30 ∧ (∃ b34 : Nat, m22 0 6 = b34 ∧ isB b34 ∧ (∀ m38, m38 = up m22 0 5 b34 → (∀ m41, m41 = up m38 0 6 b30 → (∃ (e44 : Nat) (P45 : MM → Prop), e44 < d ∧ CV l G Y_S_begin e44 [.inr (.inr 0)] m41 P45 ∧ (∀ m51, P45 m51 → wfM m51 → (∃ b55 : Nat, m51 0 5 = b55 ∧ isB b55 ∧ (P (m51 b55 0) m51))))))))) ∧ (¬ (z11 ≠ 0) → (P (-1) m22))))))))) : CI l G Y_S_table d [.inr (.inr 0)] m P := by
  refine CI.of [(0, .inr (.inr 0))] k_S_table.1 (Nat.le_of_ble_eq_true rfl) rfl (Wp.wf (fun hw _ hl hs => ?_))
  have H0 := H hw
  refine Wp.aload_n 0 0 d_S_table_0 rfl rfl ?_
  refine Wp.getP 2 d_S_table_1 fl_S_16 rfl rfl rfl ?_
  refine Wp.aload_n 0 0 d_S_table_4 rfl rfl ?_
  refine Wp.getP 1 d_S_table_5 fl_S_9 rfl rfl rfl ?_
  refine Wp.aload_n 0 0 d_S_table_8 rfl rfl ?_
  refine Wq.getI 1 rfl d_S_table_9 fl_S_98 rfl (Or.inl rfl) ?_
  refine Wp.aload_n 0 0 d_S_table_12 rfl rfl ?_
  obtain ⟨b1, hb2, hB3, H4⟩ := H0
  refine Wp.getR b1 d_S_table_13 fl_S_31 rfl (Or.inl rfl) rfl hb2 ?_
  obtain ⟨e5, P6, hd7, ho8, H9⟩ := H4
  refine Wq.VI (st := []) [.inr (.inr 1), .inl (m 0 1), .inr (.inr b1)] d_S_table_16 k_Reader_read ml_S_105 rfl rfl rfl (fun h => by cases h) (Nat.le_of_ble_eq_true rfl) hd7 ho8 (fun z11 m12 hp13 hz14 hw15 => ?_)
  have H10 := H9 z11 m12 hp13 hz14 hw15
  refine Wp.istore_n 1 [(0, .inr (.inr 0)), (1, .inl z11)] d_S_table_19 rfl (by decide) rfl ?_
  refine Wp.aload_n 0 0 d_S_table_20 rfl rfl ?_
  refine Wp.aload_n 0 0 d_S_table_21 rfl rfl ?_
  refine Wp.getP 2 d_S_table_22 fl_S_16 rfl rfl rfl ?_
  refine Wq.getI 6 rfl d_S_table_25 fl_S_109 rfl (Or.inl rfl) ?_
  refine Wq.putI 3 rfl d_S_table_28 fl_S_112 (fun _ _ _ h => by cases h; rfl) rfl rfl rfl (fun m16 hm17 => ?_)
  have H18 := H10 m16 hm17
  refine Wp.aload_n 0 0 d_S_table_31 rfl rfl ?_
  refine Wp.aload_n 0 0 d_S_table_32 rfl rfl ?_
  refine Wp.getP 2 d_S_table_33 fl_S_16 rfl rfl rfl ?_
  refine Wq.getI 7 rfl d_S_table_36 fl_S_115 rfl (Or.inl rfl) ?_
  refine Wq.putI 4 rfl d_S_table_39 fl_S_20 (fun _ _ _ h => by cases h; rfl) rfl rfl rfl (fun m19 hm20 => ?_)
  have H21 := H18 m19 hm20
  refine Wp.aload_n 0 0 d_S_table_42 rfl rfl ?_
  refine Wp.iconst d_S_table_43 (by decide) ?_
  refine Wq.putI 1 rfl d_S_table_44 fl_S_98 (fun _ _ _ h => by cases h; rfl) rfl rfl rfl (fun m22 hm23 => ?_)
  have H24 := H21 m22 hm23
  refine Wp.iload_n 1 1 d_S_table_47 rfl rfl ?_
  obtain ⟨H26, H27⟩ := H24
  refine Wp.if_ne 53 d_S_table_48 (by decide) (fun c25 => ?_) (fun c25 => ?_)
  · have H28 := H26 c25
    refine Wp.aload_n 0 0 d_S_table_53 rfl rfl ?_
    obtain ⟨b30, hb31, hB32, H33⟩ := H28
    refine Wp.getR b30 d_S_table_54 fl_S_27 rfl (Or.inl rfl) rfl hb31 ?_
    refine Wp.astore_n 2 [(0, .inr (.inr 0)), (1, .inl z11), (2, .inr (.inr b30))] d_S_table_57 rfl (by decide) rfl ?_
    refine Wp.aload_n 0 0 d_S_table_58 rfl rfl ?_
    refine Wp.aload_n 0 0 d_S_table_59 rfl rfl ?_
    obtain ⟨b34, hb35, hB36, H37⟩ := H33
    refine Wp.getR b34 d_S_table_60 fl_S_31 rfl (Or.inl rfl) rfl hb35 ?_
    refine Wq.putR 5 rfl d_S_table_63 fl_S_27 (fun _ _ _ h => by cases h; rfl) rfl rfl rfl (fun m38 hm39 => ?_)
    have H40 := H37 m38 hm39
    refine Wp.aload_n 0 0 d_S_table_66 rfl rfl ?_
    refine Wp.aload_n 2 2 d_S_table_67 rfl rfl ?_
    refine Wq.putR 6 rfl d_S_table_68 fl_S_31 (fun _ _ _ h => by cases h; rfl) rfl rfl rfl (fun m41 hm42 => ?_)
    have H43 := H40 m41 hm42
    refine Wp.aload_n 0 0 d_S_table_71 rfl rfl ?_
    obtain ⟨e44, P45, hd46, ho47, H48⟩ := H43
    refine Wq.VV (st := []) [] d_S_table_72 k_S_begin ml_S_116 rfl rfl rfl (fun h => by cases h) (Nat.le_of_ble_eq_true rfl) hd46 ho47 (fun m51 hp52 hw54 => ?_)
    have H49 := H48 m51 hp52 hw54
    refine Wp.aload_n 0 0 d_S_table_75 rfl rfl ?_
    obtain ⟨b55, hb56, hB57, H58⟩ := H49
    refine Wp.getR b55 d_S_table_76 fl_S_27 rfl (Or.inl rfl) rfl hb56 ?_
    refine Wq.getI 0 rfl d_S_table_79 fl_S_119 (isB_lay hB57) (Or.inl rfl) ?_
    exact Wq.iret d_S_table_82 rfl H58
  · have H29 := H27 c25
    refine Wp.iconst d_S_table_51 (by decide) ?_
    exact Wq.iret d_S_table_52 rfl H29
theorem d_S_begin_0 : decode Y_S_begin.2.1 0 = .ok (.iconst 0, 1) := by decide +kernel
theorem d_S_begin_1 : decode Y_S_begin.2.1 1 = .ok (.istore_n 1, 1) := by decide +kernel
theorem d_S_begin_2 : decode Y_S_begin.2.1 2 = .ok (.iload_n 1, 1) := by decide +kernel
theorem d_S_begin_3 : decode Y_S_begin.2.1 3 = .ok (.iconst 5, 1) := by decide +kernel
theorem d_S_begin_4 : decode Y_S_begin.2.1 4 = .ok (.if_icmp .ge 24, 3) := by decide +kernel
theorem d_S_begin_7 : decode Y_S_begin.2.1 7 = .ok (.aload_n 0, 1) := by decide +kernel
theorem d_S_begin_8 : decode Y_S_begin.2.1 8 = .ok (.getfield 34, 3) := by decide +kernel
theorem d_S_begin_11 : decode Y_S_begin.2.1 11 = .ok (.iload_n 1, 1) := by decide +kernel
theorem d_S_begin_12 : decode Y_S_begin.2.1 12 = .ok (.aload_n 0, 1) := by decide +kernel
theorem d_S_begin_13 : decode Y_S_begin.2.1 13 = .ok (.getfield 27, 3) := by decide +kernel
theorem d_S_begin_16 : decode Y_S_begin.2.1 16 = .ok (.getfield 122, 3) := by decide +kernel
theorem d_S_begin_19 : decode Y_S_begin.2.1 19 = .ok (.iload_n 1, 1) := by decide +kernel
theorem d_S_begin_20 : decode Y_S_begin.2.1 20 = .ok (.iaload, 1) := by decide +kernel
theorem d_S_begin_21 : decode Y_S_begin.2.1 21 = .ok (.iastore, 1) := by decide +kernel
theorem d_S_begin_22 : decode Y_S_begin.2.1 22 = .ok (.iinc 1 1, 3) := by decide +kernel
theorem d_S_begin_25 : decode Y_S_begin.2.1 25 = .ok (.goto (-23), 3) := by decide +kernel
theorem d_S_begin_28 : decode Y_S_begin.2.1 28 = .ok (.aload_n 0, 1) := by decide +kernel
theorem d_S_begin_29 : decode Y_S_begin.2.1 29 = .ok (.getfield 34, 3) := by decide +kernel
theorem d_S_begin_32 : decode Y_S_begin.2.1 32 = .ok (.iconst 5, 1) := by decide +kernel
theorem d_S_begin_33 : decode Y_S_begin.2.1 33 = .ok (.iconst 0, 1) := by decide +kernel
theorem d_S_begin_34 : decode Y_S_begin.2.1 34 = .ok (.iastore, 1) := by decide +kernel
theorem d_S_begin_35 : decode Y_S_begin.2.1 35 = .ok (.aload_n 0, 1) := by decide +kernel
theorem d_S_begin_36 : decode Y_S_begin.2.1 36 = .ok (.getfield 34, 3) := by decide +kernel
theorem d_S_begin_39 : decode Y_S_begin.2.1 39 = .ok (.bipush 6, 2) := by decide +kernel
theorem d_S_begin_41 : decode Y_S_begin.2.1 41 = .ok (.iconst 0, 1) := by decide +kernel
theorem d_S_begin_42 : decode Y_S_begin.2.1 42 = .ok (.iastore, 1) := by decide +kernel
theorem d_S_begin_43 : decode Y_S_begin.2.1 43 = .ok (.aload_n 0, 1) := by decide +kernel
theorem d_S_begin_44 : decode Y_S_begin.2.1 44 = .ok (.getfield 34, 3) := by decide +kernel
theorem d_S_begin_47 : decode Y_S_begin.2.1 47 = .ok (.bipush 7, 2) := by decide +kernel
theorem d_S_begin_49 : decode Y_S_begin.2.1 49 = .ok (.aload_n 0, 1) := by decide +kernel
theorem d_S_begin_50 : decode Y_S_begin.2.1 50 = .ok (.getfield 27, 3) := by decide +kernel
theorem d_S_begin_53 : decode Y_S_begin.2.1 53 = .ok (.getfield 125, 3) := by decide +kernel
theorem d_S_begin_56 : decode Y_S_begin.2.1 56 = .ok (.iastore, 1) := by decide +kernel
theorem d_S_begin_57 : decode Y_S_begin.2.1 57 = .ok (.aload_n 0, 1) := by decide +kernel
theorem d_S_begin_58 : decode Y_S_begin.2.1 58 = .ok (.getfield 46, 3) := by decide +kernel
theorem d_S_begin_61 : decode Y_S_begin.2.1 61 = .ok (.aload_n 0, 1) := by decide +kernel
theorem d_S_begin_62 : decode Y_S_begin.2.1 62 = .ok (.getfield 34, 3) := by decide +kernel
theorem d_S_begin_65 : decode Y_S_begin.2.1 65 = .ok (.invokevirtual 128, 3) := by decide +kernel
theorem d_S_begin_68 : decode Y_S_begin.2.1 68 = .ok (.iconst 0, 1) := by decide +kernel
theorem d_S_begin_69 : decode Y_S_begin.2.1 69 = .ok (.istore_n 1, 1) := by decide +kernel
theorem d_S_begin_70 : decode Y_S_begin.2.1 70 = .ok (.iload_n 1, 1) := by decide +kernel
theorem d_S_begin_71 : decode Y_S_begin.2.1 71 = .ok (.iconst 3, 1) := by decide +kernel
theorem d_S_begin_72 : decode Y_S_begin.2.1 72 = .ok (.if_icmp .ge 16, 3) := by decide +kernel
theorem d_S_begin_75 : decode Y_S_begin.2.1 75 = .ok (.aload_n 0, 1) := by decide +kernel
theorem d_S_begin_76 : decode Y_S_begin.2.1 76 = .ok (.getfield 53, 3) := by decide +kernel
theorem d_S_begin_79 : decode Y_S_begin.2.1 79 = .ok (.iload_n 1, 1) := by decide +kernel
theorem d_S_begin_80 : decode Y_S_begin.2.1 80 = .ok (.iconst 0, 1) := by decide +kernel
theorem d_S_begin_81 : decode Y_S_begin.2.1 81 = .ok (.bastore, 1) := by decide +kernel
theorem d_S_begin_82 : decode Y_S_begin.2.1 82 = .ok (.iinc 1 1, 3) := by decide +kernel
theorem d_S_begin_85 : decode Y_S_begin.2.1 85 = .ok (.goto (-15), 3) := by decide +kernel
theorem d_S_begin_88 : decode Y_S_begin.2.1 88 = .ok (.aload_n 0, 1) := by decide +kernel
theorem d_S_begin_89 : decode Y_S_begin.2.1 89 = .ok (.getfield 91, 3) := by decide +kernel
theorem d_S_begin_92 : decode Y_S_begin.2.1 92 = .ok (.invokevirtual 132, 3) := by decide +kernel
theorem d_S_begin_95 : decode Y_S_begin.2.1 95 = .ok (.aload_n 0, 1) := by decide +kernel
theorem d_S_begin_96 : decode Y_S_begin.2.1 96 = .ok (.getfield 84, 3) := by decide +kernel
theorem d_S_begin_99 : decode Y_S_begin.2.1 99 = .ok (.invokevirtual 135, 3) := by decide +kernel
theorem d_S_begin_102 : decode Y_S_begin.2.1 102 = .ok (.aload_n 0, 1) := by decide +kernel
theorem d_S_begin_103 : decode Y_S_begin.2.1 103 = .ok (.getfield 77, 3) := by decide +kernel
theorem d_S_begin_106 : decode Y_S_begin.2.1 106 = .ok (.invokevirtual 137, 3) := by decide +kernel
theorem d_S_begin_109 : decode Y_S_begin.2.1 109 = .ok (.aload_n 0, 1) := by decide +kernel
theorem d_S_begin_110 : decode Y_S_begin.2.1 110 = .ok (.getfield 70, 3) := by decide +kernel
theorem d_S_begin_113 : decode Y_S_begin.2.1 113 = .ok (.aload_n 0, 1) := by decide +kernel
theorem d_S_begin_114 : decode Y_S_begin.2.1 114 = .ok (.getfield 27, 3) := by decide +kernel
theorem d_S_begin_117 : decode Y_S_begin.2.1 117 = .ok (.invokevirtual 138, 3) := by decide +kernel
theorem d_S_begin_120 : decode Y_S_begin.2.1 120 = .ok (.return_, 1) := by decide +kernel
theorem e_S_begin {l : Launch} {G : GT} {d : Nat} {P : MM → Prop} {m : MM}   (H : wfM m → Wq l G false Y_S_begin d (QV P) 2 [(0, .inr (.inr 0)), (1, .inl 0)] [] m) : CV l G Y_S_begin d [.inr (.inr 0)] m P := by
  refine CV.of [(0, .inr (.inr 0))] k_S_begin.1 (Nat.le_of_ble_eq_true rfl) rfl (Wp.wf (fun hw _ hl hs => ?_))
  have H0 := H hw
  refine Wp.iconst d_S_begin_0 (by decide) ?_
  refine Wp.istore_n 1 [(0, .inr (.inr 0)), (1, .inl 0)] d_S_begin_1 rfl (by decide) rfl ?_
  exact H0
theorem s_S_begin_2 {l : Launch} {G : GT} {d : Nat} {P : MM → Prop} {m : MM} (x1 : Int)  (H : wfM m → inR x1 → (x1 ≥ 5 → (∀ m6, m6 = up m 25 5 0 → (∀ m11, m11 = up m6 25 6 0 → (∃ b16 : Nat, m11 0 5 = b16 ∧ isB b16 ∧ (∀ m20, m20 = up m11 25 7 (m11 b16 3) → (∃ (e25 : Nat) (P26 : MM → Prop), e25 < d ∧ CV l G Y_Acts_forget e25 [.inr (.inr 28), .inr (.inr 25)] m20 P26 ∧ (∀ m32, P26 m32 → wfM m32 → (Wq l G false Y_S_begin d (QV P) 70 [(0, .inr (.inr 0)), (1, .inl 0)] [] m32)))))))) ∧ (¬ (x1 ≥ 5) → (∃ b36 : Nat, m 0 5 = b36 ∧ isB b36 ∧ ((0 ≤ x1 ∧ x1 < (5 : Int)) ∧ ((0 ≤ x1 ∧ x1 < (8 : Int)) ∧ (∀ m42, m42 = up m 25 x1 (m (b36 + 1) x1) → ((inR (x1 + 1)) ∧ (Wq l G false Y_S_begin d (QV P) 2 [(0, .inr (.inr 0)), (1, .inl (x1 + 1))] [] m42)))))))) : Wq l G false Y_S_begin d (QV P) 2 [(0, .inr (.inr 0)), (1, .inl x1)] [] m := by
  refine Wp.wf (fun hw _ hl hs => ?_)
  have H0 := H hw (hl _ (List.mem_of_getElem? (i := 1) rfl))
  refine Wp.iload_n 1 1 d_S_begin_2 rfl rfl ?_
  refine Wp.iconst d_S_begin_3 (by decide) ?_
  obtain ⟨H2, H3⟩ := H0
  refine Wp.icmp_ge 28 d_S_begin_4 (by decide) (fun c1 => ?_) (fun c1 => ?_)
  · have H4 := H2 c1
    refine Wp.aload_n 0 0 d_S_begin_28 rfl rfl ?_
    refine Wp.getP 25 d_S_begin_29 fl_S_34 rfl rfl rfl ?_
    refine Wp.iconst d_S_begin_32 (by decide) ?_
    refine Wp.iconst d_S_begin_33 (by decide) ?_
    refine Wq.iast d_S_begin_34 rfl (by decide) (by decide) (fun m6 hm7 => ?_)
    have H8 := H4 m6 hm7
    refine Wp.aload_n 0 0 d_S_begin_35 rfl rfl ?_
    refine Wp.getP 25 d_S_begin_36 fl_S_34 rfl rfl rfl ?_
    refine Wp.bipush d_S_begin_39 (by decide) (by decide) ?_
    refine Wp.iconst d_S_begin_41 (by decide) ?_
    refine Wq.iast d_S_begin_42 rfl (by decide) (by decide) (fun m11 hm12 => ?_)
    have H13 := H8 m11 hm12
    refine Wp.aload_n 0 0 d_S_begin_43 rfl rfl ?_
    refine Wp.getP 25 d_S_begin_44 fl_S_34 rfl rfl rfl ?_
    refine Wp.bipush d_S_begin_47 (by decide) (by decide) ?_
    refine Wp.aload_n 0 0 d_S_begin_49 rfl rfl ?_
    obtain ⟨b16, hb17, hB18, H19⟩ := H13
    refine Wp.getR b16 d_S_begin_50 fl_S_27 rfl (Or.inl rfl) rfl hb17 ?_
    refine Wq.getI 3 rfl d_S_begin_53 fl_S_125 (isB_lay hB18) (Or.inl rfl) ?_
    refine Wq.iast d_S_begin_56 rfl (by decide) (by decide) (fun m20 hm21 => ?_)
    have H22 := H19 m20 hm21
    refine Wp.aload_n 0 0 d_S_begin_57 rfl rfl ?_
    refine Wp.getP 28 d_S_begin_58 fl_S_46 rfl rfl rfl ?_
    refine Wp.aload_n 0 0 d_S_begin_61 rfl rfl ?_
    refine Wp.getP 25 d_S_begin_62 fl_S_34 rfl rfl rfl ?_
    obtain ⟨e25, P26, hd27, ho28, H29⟩ := H22
    refine Wq.VV (st := []) [.inr (.inr 25)] d_S_begin_65 k_Acts_forget ml_S_128 rfl rfl rfl (fun h => by cases h) (Nat.le_of_ble_eq_true rfl) hd27 ho28 (fun m32 hp33 hw35 => ?_)
    have H30 := H29 m32 hp33 hw35
    refine Wp.iconst d_S_begin_68 (by decide) ?_
    refine Wp.istore_n 1 [(0, .inr (.inr 0)), (1, .inl 0)] d_S_begin_69 rfl (by decide) rfl ?_
    exact H30
  · have H5 := H3 c1
    refine Wp.aload_n 0 0 d_S_begin_7 rfl rfl ?_
    refine Wp.getP 25 d_S_begin_8 fl_S_34 rfl rfl rfl ?_
    refine Wp.iload_n 1 1 d_S_begin_11 rfl rfl ?_
    refine Wp.aload_n 0 0 d_S_begin_12 rfl rfl ?_
    obtain ⟨b36, hb37, hB38, H39⟩ := H5
    refine Wp.getR b36 d_S_begin_13 fl_S_27 rfl (Or.inl rfl) rfl hb37 ?_
    refine Wp.getP (b36 + 1) d_S_begin_16 fl_S_122 (isB_lay hB38) rfl (isB_p5 hB38) ?_
    refine Wp.iload_n 1 1 d_S_begin_19 rfl rfl ?_
    obtain ⟨s40, H41⟩ := H39
    refine Wp.iald d_S_begin_20 (isB_l5 hB38) (Or.inl rfl) s40.1 s40.2 ?_
    obtain ⟨s49, H50⟩ := H41
    refine Wq.iast d_S_begin_21 rfl s49.1 s49.2 (fun m42 hm43 => ?_)
    have H44 := H50 m42 hm43
    obtain ⟨s47, H48⟩ := H44
    refine Wp.iinc 1 1 [(0, .inr (.inr 0)), (1, .inl (x1 + 1))] d_S_begin_22 rfl s47 (by decide) rfl ?_
    refine Wp.goto 2 d_S_begin_25 (by decide) ?_
    exact H48
theorem s_S_begin_70 {l : Launch} {G : GT} {d : Nat} {P : MM → Prop} {m : MM} (x1 : Int)  (H : wfM m → inR x1 → (x1 ≥ 3 → (∃ (e6 : Nat) (P7 : MM → Prop), e6 < d ∧ CV l G Y_Lying_clear e6 [.inr (.inr 67)] m P7 ∧ (∀ m13, P7 m13 → wfM m13 → (∃ (e17 : Nat) (P18 : MM → Prop), e17 < d ∧ CV l G Y_Sights_forget e17 [.inr (.inr 55)] m13 P18 ∧ (∀ m24, P18 m24 → wfM m24 → (∃ (e28 : Nat) (P29 : MM → Prop), e28 < d ∧ CV l G Y_Fire_forget e28 [.inr (.inr 45)] m24 P29 ∧ (∀ m35, P29 m35 → wfM m35 → (∃ b39 : Nat, m35 0 5 = b39 ∧ isB b39 ∧ (∃ (e43 : Nat) (P44 : MM → Prop), e43 < d ∧ CV l G Y_Group_learn e43 [.inr (.inr 38), .inr (.inr b39)] m35 P44 ∧ (∀ m50, P44 m50 → wfM m50 → (P m50))))))))))) ∧ (¬ (x1 ≥ 3) → ((0 ≤ x1 ∧ x1 < (3 : Int)) ∧ (∀ m54, m54 = up m 31 x1 0 → ((inR (x1 + 1)) ∧ (Wq l G false Y_S_begin d (QV P) 70 [(0, .inr (.inr 0)), (1, .inl (x1 + 1))] [] m54)))))) : Wq l G false Y_S_begin d (QV P) 70 [(0, .inr (.inr 0)), (1, .inl x1)] [] m := by
  refine Wp.wf (fun hw _ hl hs => ?_)
  have H0 := H hw (hl _ (List.mem_of_getElem? (i := 1) rfl))
  refine Wp.iload_n 1 1 d_S_begin_70 rfl rfl ?_
  refine Wp.iconst d_S_begin_71 (by decide) ?_
  obtain ⟨H2, H3⟩ := H0
  refine Wp.icmp_ge 88 d_S_begin_72 (by decide) (fun c1 => ?_) (fun c1 => ?_)
  · have H4 := H2 c1
    refine Wp.aload_n 0 0 d_S_begin_88 rfl rfl ?_
    refine Wp.getP 67 d_S_begin_89 fl_S_91 rfl rfl rfl ?_
    obtain ⟨e6, P7, hd8, ho9, H10⟩ := H4
    refine Wq.VV (st := []) [] d_S_begin_92 k_Lying_clear ml_S_132 rfl rfl rfl (fun h => by cases h) (Nat.le_of_ble_eq_true rfl) hd8 ho9 (fun m13 hp14 hw16 => ?_)
    have H11 := H10 m13 hp14 hw16
    refine Wp.aload_n 0 0 d_S_begin_95 rfl rfl ?_
    refine Wp.getP 55 d_S_begin_96 fl_S_84 rfl rfl rfl ?_
    obtain ⟨e17, P18, hd19, ho20, H21⟩ := H11
    refine Wq.VV (st := []) [] d_S_begin_99 k_Sights_forget ml_S_135 rfl rfl rfl (fun h => by cases h) (Nat.le_of_ble_eq_true rfl) hd19 ho20 (fun m24 hp25 hw27 => ?_)
    have H22 := H21 m24 hp25 hw27
    refine Wp.aload_n 0 0 d_S_begin_102 rfl rfl ?_
    refine Wp.getP 45 d_S_begin_103 fl_S_77 rfl rfl rfl ?_
    obtain ⟨e28, P29, hd30, ho31, H32⟩ := H22
    refine Wq.VV (st := []) [] d_S_begin_106 k_Fire_forget ml_S_137 rfl rfl rfl (fun h => by cases h) (Nat.le_of_ble_eq_true rfl) hd30 ho31 (fun m35 hp36 hw38 => ?_)
    have H33 := H32 m35 hp36 hw38
    refine Wp.aload_n 0 0 d_S_begin_109 rfl rfl ?_
    refine Wp.getP 38 d_S_begin_110 fl_S_70 rfl rfl rfl ?_
    refine Wp.aload_n 0 0 d_S_begin_113 rfl rfl ?_
    obtain ⟨b39, hb40, hB41, H42⟩ := H33
    refine Wp.getR b39 d_S_begin_114 fl_S_27 rfl (Or.inl rfl) rfl hb40 ?_
    obtain ⟨e43, P44, hd45, ho46, H47⟩ := H42
    refine Wq.VV (st := []) [.inr (.inr b39)] d_S_begin_117 k_Group_learn ml_S_138 rfl rfl rfl (fun h => by cases h) (Nat.le_of_ble_eq_true rfl) hd45 ho46 (fun m50 hp51 hw53 => ?_)
    have H48 := H47 m50 hp51 hw53
    exact Wq.vret d_S_begin_120 rfl H48
  · have H5 := H3 c1
    refine Wp.aload_n 0 0 d_S_begin_75 rfl rfl ?_
    refine Wp.getP 31 d_S_begin_76 fl_S_53 rfl rfl rfl ?_
    refine Wp.iload_n 1 1 d_S_begin_79 rfl rfl ?_
    refine Wp.iconst d_S_begin_80 (by decide) ?_
    obtain ⟨s61, H62⟩ := H5
    refine Wq.zast d_S_begin_81 rfl s61.1 s61.2 (by decide) (fun m54 hm55 => ?_)
    have H56 := H62 m54 hm55
    obtain ⟨s59, H60⟩ := H56
    refine Wp.iinc 1 1 [(0, .inr (.inr 0)), (1, .inl (x1 + 1))] d_S_begin_82 rfl s59 (by decide) rfl ?_
    refine Wp.goto 70 d_S_begin_85 (by decide) ?_
    exact H60
theorem d_S_commonDivisor_0 : decode Y_S_commonDivisor.2.1 0 = .ok (.lload_n 0, 1) := by decide +kernel
theorem d_S_commonDivisor_1 : decode Y_S_commonDivisor.2.1 1 = .ok (.invokestatic 332, 3) := by decide +kernel
theorem d_S_commonDivisor_4 : decode Y_S_commonDivisor.2.1 4 = .ok (.lstore 4, 2) := by decide +kernel
theorem d_S_commonDivisor_6 : decode Y_S_commonDivisor.2.1 6 = .ok (.lload_n 2, 1) := by decide +kernel
theorem d_S_commonDivisor_7 : decode Y_S_commonDivisor.2.1 7 = .ok (.invokestatic 332, 3) := by decide +kernel
theorem d_S_commonDivisor_10 : decode Y_S_commonDivisor.2.1 10 = .ok (.lstore 6, 2) := by decide +kernel
theorem d_S_commonDivisor_12 : decode Y_S_commonDivisor.2.1 12 = .ok (.iconst 0, 1) := by decide +kernel
theorem d_S_commonDivisor_13 : decode Y_S_commonDivisor.2.1 13 = .ok (.istore 8, 2) := by decide +kernel
theorem d_S_commonDivisor_15 : decode Y_S_commonDivisor.2.1 15 = .ok (.iload 8, 2) := by decide +kernel
theorem d_S_commonDivisor_17 : decode Y_S_commonDivisor.2.1 17 = .ok (.ldc 255, 2) := by decide +kernel
theorem d_S_commonDivisor_19 : decode Y_S_commonDivisor.2.1 19 = .ok (.if_icmp .ge 31, 3) := by decide +kernel
theorem d_S_commonDivisor_22 : decode Y_S_commonDivisor.2.1 22 = .ok (.lload 6, 2) := by decide +kernel
theorem d_S_commonDivisor_24 : decode Y_S_commonDivisor.2.1 24 = .ok (.lconst 0, 1) := by decide +kernel
theorem d_S_commonDivisor_25 : decode Y_S_commonDivisor.2.1 25 = .ok (.lcmp, 1) := by decide +kernel
theorem d_S_commonDivisor_26 : decode Y_S_commonDivisor.2.1 26 = .ok (.ifCond .eq 24, 3) := by decide +kernel
theorem d_S_commonDivisor_29 : decode Y_S_commonDivisor.2.1 29 = .ok (.lload 4, 2) := by decide +kernel
theorem d_S_commonDivisor_31 : decode Y_S_commonDivisor.2.1 31 = .ok (.lload 6, 2) := by decide +kernel
theorem d_S_commonDivisor_33 : decode Y_S_commonDivisor.2.1 33 = .ok (.lrem, 1) := by decide +kernel
theorem d_S_commonDivisor_34 : decode Y_S_commonDivisor.2.1 34 = .ok (.lstore 9, 2) := by decide +kernel
theorem d_S_commonDivisor_36 : decode Y_S_commonDivisor.2.1 36 = .ok (.lload 6, 2) := by decide +kernel
theorem d_S_commonDivisor_38 : decode Y_S_commonDivisor.2.1 38 = .ok (.lstore 4, 2) := by decide +kernel
theorem d_S_commonDivisor_40 : decode Y_S_commonDivisor.2.1 40 = .ok (.lload 9, 2) := by decide +kernel
theorem d_S_commonDivisor_42 : decode Y_S_commonDivisor.2.1 42 = .ok (.lstore 6, 2) := by decide +kernel
theorem d_S_commonDivisor_44 : decode Y_S_commonDivisor.2.1 44 = .ok (.iinc 8 1, 3) := by decide +kernel
theorem d_S_commonDivisor_47 : decode Y_S_commonDivisor.2.1 47 = .ok (.goto (-32), 3) := by decide +kernel
theorem d_S_commonDivisor_50 : decode Y_S_commonDivisor.2.1 50 = .ok (.lload 4, 2) := by decide +kernel
theorem d_S_commonDivisor_52 : decode Y_S_commonDivisor.2.1 52 = .ok (.lreturn, 1) := by decide +kernel
theorem e_S_commonDivisor {l : Launch} {G : GT} {d : Nat} {P : Int → MM → Prop} {m : MM} (x0 : Int) (x2 : Int)  (hd1 : 1 ≤ d) (H : wfM m → inL x0 → inL x2 → (-9223372036854775808 < x0) ∧ ((-9223372036854775808 < x2) ∧ (Wq l G false Y_S_commonDivisor d (QJ P) 15 [(4, .inr (.inl (if x0 < 0 then -x0 else x0))), (6, .inr (.inl (if x2 < 0 then -x2 else x2))), (8, .inl 0)] [] m))) : CJ l G Y_S_commonDivisor d [.inr (.inl x0), .inr (.inl x2)] m P := by
  refine CJ.of [(0, .inr (.inl x0)), (2, .inr (.inl x2))] k_S_commonDivisor.1 (Nat.le_of_ble_eq_true rfl) rfl (Wp.wf (fun hw _ hl hs => ?_))
  have H0 := H hw (hl _ (List.mem_of_getElem? (i := 0) rfl)) (hl _ (List.mem_of_getElem? (i := 1) rfl))
  refine Wp.lload_n 0 0 d_S_commonDivisor_0 rfl rfl ?_
  obtain ⟨s1, H2⟩ := H0
  refine Wp.mabsL d_S_commonDivisor_1 ml_S_332 k_mabs hd1 (Nat.le_of_ble_eq_true rfl) s1 ?_
  refine Wp.lstore 4 [(0, .inr (.inl x0)), (2, .inr (.inl x2)), (4, .inr (.inl (if x0 < 0 then -x0 else x0)))] d_S_commonDivisor_4 (by decide) rfl ?_
  refine Wp.lload_n 1 2 d_S_commonDivisor_6 rfl rfl ?_
  obtain ⟨s3, H4⟩ := H2
  refine Wp.mabsL d_S_commonDivisor_7 ml_S_332 k_mabs hd1 (Nat.le_of_ble_eq_true rfl) s3 ?_
  refine Wp.lstore 6 [(0, .inr (.inl x0)), (2, .inr (.inl x2)), (4, .inr (.inl (if x0 < 0 then -x0 else x0))), (6, .inr (.inl (if x2 < 0 then -x2 else x2)))] d_S_commonDivisor_10 (by decide) rfl ?_
  refine Wp.iconst d_S_commonDivisor_12 (by decide) ?_
  refine Wp.istore 8 [(0, .inr (.inl x0)), (2, .inr (.inl x2)), (4, .inr (.inl (if x0 < 0 then -x0 else x0))), (6, .inr (.inl (if x2 < 0 then -x2 else x2))), (8, .inl 0)] d_S_commonDivisor_13 (by decide) rfl ?_
  refine Wp.pick [2, 3, 4] [(4, .inr (.inl (if x0 < 0 then -x0 else x0))), (6, .inr (.inl (if x2 < 0 then -x2 else x2))), (8, .inl 0)] rfl ?_
  exact H4
theorem s_S_commonDivisor_15 {l : Launch} {G : GT} {d : Nat} {P : Int → MM → Prop} {m : MM} (x4 : Int) (x6 : Int) (x8 : Int)  (H : wfM m → inL x4 → inL x6 → inR x8 → (x8 ≥ 1000000 → (P x4 m)) ∧ (¬ (x8 ≥ 1000000) → ((x6 = 0 → (P x4 m)) ∧ (¬ (x6 = 0) → ((x6 ≠ 0) ∧ ((inR (x8 + 1)) ∧ (Wq l G false Y_S_commonDivisor d (QJ P) 15 [(4, .inr (.inl x6)), (6, .inr (.inl (Int.tmod x4 x6))), (8, .inl (x8 + 1))] [] m))))))) : Wq l G false Y_S_commonDivisor d (QJ P) 15 [(4, .inr (.inl x4)), (6, .inr (.inl x6)), (8, .inl x8)] [] m := by
  refine Wp.wf (fun hw _ hl hs => ?_)
  have H0 := H hw (hl _ (List.mem_of_getElem? (i := 0) rfl)) (hl _ (List.mem_of_getElem? (i := 1) rfl)) (hl _ (List.mem_of_getElem? (i := 2) rfl))
  refine Wp.iload 2 8 d_S_commonDivisor_15 rfl ?_
  refine Wp.ldc (z := 1000000) d_S_commonDivisor_17 kc_S_255 (by decide) (by decide) ?_
  obtain ⟨H2, H3⟩ := H0
  refine Wp.icmp_ge 50 d_S_commonDivisor_19 (by decide) (fun c1 => ?_) (fun c1 => ?_)
  · have H4 := H2 c1
    refine Wp.lload 0 4 d_S_commonDivisor_50 rfl ?_
    exact Wq.lret d_S_commonDivisor_52 rfl H4
  · have H5 := H3 c1
    refine Wp.lload 1 6 d_S_commonDivisor_22 rfl ?_
    refine Wp.lconst (x := 0) d_S_commonDivisor_24 (by decide) (by decide) ?_
    obtain ⟨H7, H8⟩ := H5
    refine Wq.lif_eq 50 d_S_commonDivisor_25 d_S_commonDivisor_26 (by decide) (fun c6 => ?_) (fun c6 => ?_)
    · have H9 := H7 c6
      refine Wp.lload 0 4 d_S_commonDivisor_50 rfl ?_
      exact Wq.lret d_S_commonDivisor_52 rfl H9
    · have H10 := H8 c6
      refine Wp.lload 0 4 d_S_commonDivisor_29 rfl ?_
      refine Wp.lload 1 6 d_S_commonDivisor_31 rfl ?_
      obtain ⟨s11, H12⟩ := H10
      refine Wq.lrem d_S_commonDivisor_33 s11 ?_
      refine Wp.lstore 9 [(4, .inr (.inl x4)), (6, .inr (.inl x6)), (8, .inl x8), (9, .inr (.inl (Int.tmod x4 x6)))] d_S_commonDivisor_34 (by decide) rfl ?_
      refine Wp.lload 1 6 d_S_commonDivisor_36 rfl ?_
      refine Wp.lstore 4 [(4, .inr (.inl x6)), (6, .inr (.inl x6)), (8, .inl x8), (9, .inr (.inl (Int.tmod x4 x6)))] d_S_commonDivisor_38 (by decide) rfl ?_
      refine Wp.lload 3 9 d_S_commonDivisor_40 rfl ?_
      refine Wp.lstore 6 [(4, .inr (.inl x6)), (6, .inr (.inl (Int.tmod x4 x6))), (8, .inl x8), (9, .inr (.inl (Int.tmod x4 x6)))] d_S_commonDivisor_42 (by decide) rfl ?_
      obtain ⟨s13, H14⟩ := H12
      refine Wp.iinc 2 8 [(4, .inr (.inl x6)), (6, .inr (.inl (Int.tmod x4 x6))), (8, .inl (x8 + 1)), (9, .inr (.inl (Int.tmod x4 x6)))] d_S_commonDivisor_44 rfl s13 (by decide) rfl ?_
      refine Wp.goto 15 d_S_commonDivisor_47 (by decide) ?_
      refine Wp.pick [0, 1, 2] [(4, .inr (.inl x6)), (6, .inr (.inl (Int.tmod x4 x6))), (8, .inl (x8 + 1))] rfl ?_
      exact H14
theorem d_S_fault_0 : decode Y_S_fault.2.1 0 = .ok (.iload_n 1, 1) := by decide +kernel
theorem d_S_fault_1 : decode Y_S_fault.2.1 1 = .ok (.ifCond .ne 8, 3) := by decide +kernel
theorem d_S_fault_4 : decode Y_S_fault.2.1 4 = .ok (.aload_n 0, 1) := by decide +kernel
theorem d_S_fault_5 : decode Y_S_fault.2.1 5 = .ok (.getfield 112, 3) := by decide +kernel
theorem d_S_fault_8 : decode Y_S_fault.2.1 8 = .ok (.ireturn, 1) := by decide +kernel
theorem d_S_fault_9 : decode Y_S_fault.2.1 9 = .ok (.iload_n 1, 1) := by decide +kernel
theorem d_S_fault_10 : decode Y_S_fault.2.1 10 = .ok (.iconst 1, 1) := by decide +kernel
theorem d_S_fault_11 : decode Y_S_fault.2.1 11 = .ok (.if_icmp .ne 10, 3) := by decide +kernel
theorem d_S_fault_14 : decode Y_S_fault.2.1 14 = .ok (.aload_n 0, 1) := by decide +kernel
theorem d_S_fault_15 : decode Y_S_fault.2.1 15 = .ok (.getfield 20, 3) := by decide +kernel
theorem d_S_fault_18 : decode Y_S_fault.2.1 18 = .ok (.goto 4, 3) := by decide +kernel
theorem d_S_fault_21 : decode Y_S_fault.2.1 21 = .ok (.iconst (-1), 1) := by decide +kernel
theorem d_S_fault_22 : decode Y_S_fault.2.1 22 = .ok (.ireturn, 1) := by decide +kernel
theorem e_S_fault {l : Launch} {G : GT} {d : Nat} {P : Int → MM → Prop} {m : MM} (x1 : Int)  (H : wfM m → inR x1 → (x1 ≠ 0 → ((x1 ≠ 1 → (P (-1) m)) ∧ (¬ (x1 ≠ 1) → (P (m 0 4) m)))) ∧ (¬ (x1 ≠ 0) → (P (m 0 3) m))) : CI l G Y_S_fault d [.inr (.inr 0), .inl x1] m P := by
  refine CI.of [(0, .inr (.inr 0)), (1, .inl x1)] k_S_fault.1 (Nat.le_of_ble_eq_true rfl) rfl (Wp.wf (fun hw _ hl hs => ?_))
  have H0 := H hw (hl _ (List.mem_of_getElem? (i := 1) rfl))
  refine Wp.iload_n 1 1 d_S_fault_0 rfl rfl ?_
  obtain ⟨H2, H3⟩ := H0
  refine Wp.if_ne 9 d_S_fault_1 (by decide) (fun c1 => ?_) (fun c1 => ?_)
  · have H4 := H2 c1
    refine Wp.iload_n 1 1 d_S_fault_9 rfl rfl ?_
    refine Wp.iconst d_S_fault_10 (by decide) ?_
    obtain ⟨H7, H8⟩ := H4
    refine Wp.icmp_ne 21 d_S_fault_11 (by decide) (fun c6 => ?_) (fun c6 => ?_)
    · have H9 := H7 c6
      refine Wp.iconst d_S_fault_21 (by decide) ?_
      exact Wq.iret d_S_fault_22 rfl H9
    · have H10 := H8 c6
      refine Wp.aload_n 0 0 d_S_fault_14 rfl rfl ?_
      refine Wq.getI 4 rfl d_S_fault_15 fl_S_20 rfl (Or.inl rfl) ?_
      refine Wp.goto 22 d_S_fault_18 (by decide) ?_
      exact Wq.iret d_S_fault_22 rfl H10
  · have H5 := H3 c1
    refine Wp.aload_n 0 0 d_S_fault_4 rfl rfl ?_
    refine Wq.getI 3 rfl d_S_fault_5 fl_S_112 rfl (Or.inl rfl) ?_
    exact Wq.iret d_S_fault_8 rfl H5
theorem d_S_plate_0 : decode Y_S_plate.2.1 0 = .ok (.aload_n 0, 1) := by decide +kernel
theorem d_S_plate_1 : decode Y_S_plate.2.1 1 = .ok (.getfield 27, 3) := by decide +kernel
theorem d_S_plate_4 : decode Y_S_plate.2.1 4 = .ok (.iload_n 1, 1) := by decide +kernel
theorem d_S_plate_5 : decode Y_S_plate.2.1 5 = .ok (.invokevirtual 142, 3) := by decide +kernel
theorem d_S_plate_8 : decode Y_S_plate.2.1 8 = .ok (.ifCond .ne 5, 3) := by decide +kernel
theorem d_S_plate_11 : decode Y_S_plate.2.1 11 = .ok (.iconst (-1), 1) := by decide +kernel
theorem d_S_plate_12 : decode Y_S_plate.2.1 12 = .ok (.ireturn, 1) := by decide +kernel
theorem d_S_plate_13 : decode Y_S_plate.2.1 13 = .ok (.iload_n 2, 1) := by decide +kernel
theorem d_S_plate_14 : decode Y_S_plate.2.1 14 = .ok (.tableswitch 66 0 3 #[30, 37, 47, 57], 30) := by decide +kernel
theorem d_S_plate_44 : decode Y_S_plate.2.1 44 = .ok (.aload_n 0, 1) := by decide +kernel
theorem d_S_plate_45 : decode Y_S_plate.2.1 45 = .ok (.getfield 34, 3) := by decide +kernel
theorem d_S_plate_48 : decode Y_S_plate.2.1 48 = .ok (.iload_n 1, 1) := by decide +kernel
theorem d_S_plate_49 : decode Y_S_plate.2.1 49 = .ok (.iaload, 1) := by decide +kernel
theorem d_S_plate_50 : decode Y_S_plate.2.1 50 = .ok (.ireturn, 1) := by decide +kernel
theorem d_S_plate_51 : decode Y_S_plate.2.1 51 = .ok (.aload_n 0, 1) := by decide +kernel
theorem d_S_plate_52 : decode Y_S_plate.2.1 52 = .ok (.getfield 27, 3) := by decide +kernel
theorem d_S_plate_55 : decode Y_S_plate.2.1 55 = .ok (.getfield 146, 3) := by decide +kernel
theorem d_S_plate_58 : decode Y_S_plate.2.1 58 = .ok (.iload_n 1, 1) := by decide +kernel
theorem d_S_plate_59 : decode Y_S_plate.2.1 59 = .ok (.iaload, 1) := by decide +kernel
theorem d_S_plate_60 : decode Y_S_plate.2.1 60 = .ok (.ireturn, 1) := by decide +kernel
theorem d_S_plate_61 : decode Y_S_plate.2.1 61 = .ok (.aload_n 0, 1) := by decide +kernel
theorem d_S_plate_62 : decode Y_S_plate.2.1 62 = .ok (.getfield 27, 3) := by decide +kernel
theorem d_S_plate_65 : decode Y_S_plate.2.1 65 = .ok (.getfield 149, 3) := by decide +kernel
theorem d_S_plate_68 : decode Y_S_plate.2.1 68 = .ok (.iload_n 1, 1) := by decide +kernel
theorem d_S_plate_69 : decode Y_S_plate.2.1 69 = .ok (.iaload, 1) := by decide +kernel
theorem d_S_plate_70 : decode Y_S_plate.2.1 70 = .ok (.ireturn, 1) := by decide +kernel
theorem d_S_plate_71 : decode Y_S_plate.2.1 71 = .ok (.aload_n 0, 1) := by decide +kernel
theorem d_S_plate_72 : decode Y_S_plate.2.1 72 = .ok (.getfield 27, 3) := by decide +kernel
theorem d_S_plate_75 : decode Y_S_plate.2.1 75 = .ok (.iload_n 1, 1) := by decide +kernel
theorem d_S_plate_76 : decode Y_S_plate.2.1 76 = .ok (.invokevirtual 152, 3) := by decide +kernel
theorem d_S_plate_79 : decode Y_S_plate.2.1 79 = .ok (.ireturn, 1) := by decide +kernel
theorem d_S_plate_80 : decode Y_S_plate.2.1 80 = .ok (.iconst (-1), 1) := by decide +kernel
theorem d_S_plate_81 : decode Y_S_plate.2.1 81 = .ok (.ireturn, 1) := by decide +kernel
theorem e_S_plate {l : Launch} {G : GT} {d : Nat} {P : Int → MM → Prop} {m : MM} (x1 : Int) (x2 : Int)  (H : wfM m → inR x1 → inR x2 → ∃ b1 : Nat, m 0 5 = b1 ∧ isB b1 ∧ (∃ (e5 : Nat) (P6 : Int → MM → Prop), e5 < d ∧ CI l G Y_Board_has e5 [.inr (.inr b1), .inl x1] m P6 ∧ (∀ z11 m12, P6 z11 m12 → inR z11 → wfM m12 → ((z11 ≠ 0 → ((x2 = 0 → ((0 ≤ x1 ∧ x1 < (8 : Int)) ∧ (P (m12 25 x1) m12))) ∧ (x2 = 1 → (∃ b31 : Nat, m12 0 5 = b31 ∧ isB b31 ∧ ((0 ≤ x1 ∧ x1 < (5 : Int)) ∧ (P (m12 (b31 + 4) x1) m12)))) ∧ (x2 = 2 → (∃ b41 : Nat, m12 0 5 = b41 ∧ isB b41 ∧ ((0 ≤ x1 ∧ x1 < (5 : Int)) ∧ (P (m12 (b41 + 3) x1) m12)))) ∧ (x2 = 3 → (∃ b51 : Nat, m12 0 5 = b51 ∧ isB b51 ∧ (∃ (e55 : Nat) (P56 : Int → MM → Prop), e55 < d ∧ CI l G Y_Board_joinedTo e55 [.inr (.inr b51), .inl x1] m12 P56 ∧ (∀ z61 m62, P56 z61 m62 → inR z61 → wfM m62 → (P z61 m62))))) ∧ (¬ (x2 = 0) → ¬ (x2 = 1) → ¬ (x2 = 2) → ¬ (x2 = 3) → (P (-1) m12)))) ∧ (¬ (z11 ≠ 0) → (P (-1) m12)))))) : CI l G Y_S_plate d [.inr (.inr 0), .inl x1, .inl x2] m P := by
  refine CI.of [(0, .inr (.inr 0)), (1, .inl x1), (2, .inl x2)] k_S_plate.1 (Nat.le_of_ble_eq_true rfl) rfl (Wp.wf (fun hw _ hl hs => ?_))
  have H0 := H hw (hl _ (List.mem_of_getElem? (i := 1) rfl)) (hl _ (List.mem_of_getElem? (i := 2) rfl))
  refine Wp.aload_n 0 0 d_S_plate_0 rfl rfl ?_
  obtain ⟨b1, hb2, hB3, H4⟩ := H0
  refine Wp.getR b1 d_S_plate_1 fl_S_27 rfl (Or.inl rfl) rfl hb2 ?_
  refine Wp.iload_n 1 1 d_S_plate_4 rfl rfl ?_
  obtain ⟨e5, P6, hd7, ho8, H9⟩ := H4
  refine Wq.VI (st := []) [.inl x1] d_S_plate_5 k_Board_has ml_S_142 rfl (isB_lay hB3) rfl (fun h => by cases h) (Nat.le_of_ble_eq_true rfl) hd7 ho8 (fun z11 m12 hp13 hz14 hw15 => ?_)
  have H10 := H9 z11 m12 hp13 hz14 hw15
  obtain ⟨H17, H18⟩ := H10
  refine Wp.if_ne 13 d_S_plate_8 (by decide) (fun c16 => ?_) (fun c16 => ?_)
  · have H19 := H17 c16
    refine Wp.iload_n 2 2 d_S_plate_13 rfl rfl ?_
    obtain ⟨H21, H22⟩ := H19
    by_cases c23 : x2 = 0
    · have H24 := H21 c23
      refine Wp.tin (off := 30) 0 44 d_S_plate_14 c23 (by decide +kernel) (by decide +kernel) (by decide +kernel) (by decide +kernel) ?_
      refine Wp.aload_n 0 0 d_S_plate_44 rfl rfl ?_
      refine Wp.getP 25 d_S_plate_45 fl_S_34 rfl rfl rfl ?_
      refine Wp.iload_n 1 1 d_S_plate_48 rfl rfl ?_
      obtain ⟨s25, H26⟩ := H24
      refine Wp.iald d_S_plate_49 rfl (Or.inl rfl) s25.1 s25.2 ?_
      exact Wq.iret d_S_plate_50 rfl H26
    obtain ⟨H27, H28⟩ := H22
    by_cases c29 : x2 = 1
    · have H30 := H27 c29
      refine Wp.tin (off := 37) 1 51 d_S_plate_14 c29 (by decide +kernel) (by decide +kernel) (by decide +kernel) (by decide +kernel) ?_
      refine Wp.aload_n 0 0 d_S_plate_51 rfl rfl ?_
      obtain ⟨b31, hb32, hB33, H34⟩ := H30
      refine Wp.getR b31 d_S_plate_52 fl_S_27 rfl (Or.inl rfl) rfl hb32 ?_
      refine Wp.getP (b31 + 4) d_S_plate_55 fl_S_146 (isB_lay hB33) rfl (isB_p8 hB33) ?_
      refine Wp.iload_n 1 1 d_S_plate_58 rfl rfl ?_
      obtain ⟨s35, H36⟩ := H34
      refine Wp.iald d_S_plate_59 (isB_l8 hB33) (Or.inl rfl) s35.1 s35.2 ?_
      exact Wq.iret d_S_plate_60 rfl H36
    obtain ⟨H37, H38⟩ := H28
    by_cases c39 : x2 = 2
    · have H40 := H37 c39
      refine Wp.tin (off := 47) 2 61 d_S_plate_14 c39 (by decide +kernel) (by decide +kernel) (by decide +kernel) (by decide +kernel) ?_
      refine Wp.aload_n 0 0 d_S_plate_61 rfl rfl ?_
      obtain ⟨b41, hb42, hB43, H44⟩ := H40
      refine Wp.getR b41 d_S_plate_62 fl_S_27 rfl (Or.inl rfl) rfl hb42 ?_
      refine Wp.getP (b41 + 3) d_S_plate_65 fl_S_149 (isB_lay hB43) rfl (isB_p7 hB43) ?_
      refine Wp.iload_n 1 1 d_S_plate_68 rfl rfl ?_
      obtain ⟨s45, H46⟩ := H44
      refine Wp.iald d_S_plate_69 (isB_l7 hB43) (Or.inl rfl) s45.1 s45.2 ?_
      exact Wq.iret d_S_plate_70 rfl H46
    obtain ⟨H47, H48⟩ := H38
    by_cases c49 : x2 = 3
    · have H50 := H47 c49
      refine Wp.tin (off := 57) 3 71 d_S_plate_14 c49 (by decide +kernel) (by decide +kernel) (by decide +kernel) (by decide +kernel) ?_
      refine Wp.aload_n 0 0 d_S_plate_71 rfl rfl ?_
      obtain ⟨b51, hb52, hB53, H54⟩ := H50
      refine Wp.getR b51 d_S_plate_72 fl_S_27 rfl (Or.inl rfl) rfl hb52 ?_
      refine Wp.iload_n 1 1 d_S_plate_75 rfl rfl ?_
      obtain ⟨e55, P56, hd57, ho58, H59⟩ := H54
      refine Wq.VI (st := []) [.inl x1] d_S_plate_76 k_Board_joinedTo ml_S_152 rfl (isB_lay hB53) rfl (fun h => by cases h) (Nat.le_of_ble_eq_true rfl) hd57 ho58 (fun z61 m62 hp63 hz64 hw65 => ?_)
      have H60 := H59 z61 m62 hp63 hz64 hw65
      exact Wq.iret d_S_plate_79 rfl H60
    have H66 := H48 c23 c29 c39 c49
    have ho14 : x2 < 0 ∨ 3 < x2 := (lt_or_geI x2 0).elim Or.inl (fun h9 => Or.inr (Int.lt_of_lt_of_le (by decide +kernel) (ne_step (ne_step (ne_step (ne_step h9 c23) c29) c39) c49)))
    refine Wp.tout 80 d_S_plate_14 ho14 (by decide +kernel) ?_
    refine Wp.iconst d_S_plate_80 (by decide) ?_
    exact Wq.iret d_S_plate_81 rfl H66
  · have H20 := H18 c16
    refine Wp.iconst d_S_plate_11 (by decide) ?_
    exact Wq.iret d_S_plate_12 rfl H20
theorem d_S_wide_0 : decode Y_S_wide.2.1 0 = .ok (.aload_n 0, 1) := by decide +kernel
theorem d_S_wide_1 : decode Y_S_wide.2.1 1 = .ok (.getfield 27, 3) := by decide +kernel
theorem d_S_wide_4 : decode Y_S_wide.2.1 4 = .ok (.iload_n 1, 1) := by decide +kernel
theorem d_S_wide_5 : decode Y_S_wide.2.1 5 = .ok (.invokevirtual 142, 3) := by decide +kernel
theorem d_S_wide_8 : decode Y_S_wide.2.1 8 = .ok (.ifCond .eq 14, 3) := by decide +kernel
theorem d_S_wide_11 : decode Y_S_wide.2.1 11 = .ok (.aload_n 0, 1) := by decide +kernel
theorem d_S_wide_12 : decode Y_S_wide.2.1 12 = .ok (.getfield 27, 3) := by decide +kernel
theorem d_S_wide_15 : decode Y_S_wide.2.1 15 = .ok (.iload_n 2, 1) := by decide +kernel
theorem d_S_wide_16 : decode Y_S_wide.2.1 16 = .ok (.invokevirtual 142, 3) := by decide +kernel
theorem d_S_wide_19 : decode Y_S_wide.2.1 19 = .ok (.ifCond .ne 5, 3) := by decide +kernel
theorem d_S_wide_22 : decode Y_S_wide.2.1 22 = .ok (.iconst (-1), 1) := by decide +kernel
theorem d_S_wide_23 : decode Y_S_wide.2.1 23 = .ok (.ireturn, 1) := by decide +kernel
theorem d_S_wide_24 : decode Y_S_wide.2.1 24 = .ok (.aload_n 0, 1) := by decide +kernel
theorem d_S_wide_25 : decode Y_S_wide.2.1 25 = .ok (.getfield 27, 3) := by decide +kernel
theorem d_S_wide_28 : decode Y_S_wide.2.1 28 = .ok (.iload_n 1, 1) := by decide +kernel
theorem d_S_wide_29 : decode Y_S_wide.2.1 29 = .ok (.iload_n 2, 1) := by decide +kernel
theorem d_S_wide_30 : decode Y_S_wide.2.1 30 = .ok (.invokevirtual 156, 3) := by decide +kernel
theorem d_S_wide_33 : decode Y_S_wide.2.1 33 = .ok (.ireturn, 1) := by decide +kernel
theorem e_S_wide {l : Launch} {G : GT} {d : Nat} {P : Int → MM → Prop} {m : MM} (x1 : Int) (x2 : Int)  (H : wfM m → inR x1 → inR x2 → ∃ b1 : Nat, m 0 5 = b1 ∧ isB b1 ∧ (∃ (e5 : Nat) (P6 : Int → MM → Prop), e5 < d ∧ CI l G Y_Board_has e5 [.inr (.inr b1), .inl x1] m P6 ∧ (∀ z11 m12, P6 z11 m12 → inR z11 → wfM m12 → ((z11 = 0 → (P (-1) m12)) ∧ (¬ (z11 = 0) → (∃ b21 : Nat, m12 0 5 = b21 ∧ isB b21 ∧ (∃ (e25 : Nat) (P26 : Int → MM → Prop), e25 < d ∧ CI l G Y_Board_has e25 [.inr (.inr b21), .inl x2] m12 P26 ∧ (∀ z31 m32, P26 z31 m32 → inR z31 → wfM m32 → ((z31 ≠ 0 → (∃ b41 : Nat, m32 0 5 = b41 ∧ isB b41 ∧ (∃ (e45 : Nat) (P46 : Int → MM → Prop), e45 < d ∧ CI l G Y_Board_width e45 [.inr (.inr b41), .inl x1, .inl x2] m32 P46 ∧ (∀ z51 m52, P46 z51 m52 → inR z51 → wfM m52 → (P z51 m52))))) ∧ (¬ (z31 ≠ 0) → (P (-1) m32))))))))))) : CI l G Y_S_wide d [.inr (.inr 0), .inl x1, .inl x2] m P := by
  refine CI.of [(0, .inr (.inr 0)), (1, .inl x1), (2, .inl x2)] k_S_wide.1 (Nat.le_of_ble_eq_true rfl) rfl (Wp.wf (fun hw _ hl hs => ?_))
  have H0 := H hw (hl _ (List.mem_of_getElem? (i := 1) rfl)) (hl _ (List.mem_of_getElem? (i := 2) rfl))
  refine Wp.aload_n 0 0 d_S_wide_0 rfl rfl ?_
  obtain ⟨b1, hb2, hB3, H4⟩ := H0
  refine Wp.getR b1 d_S_wide_1 fl_S_27 rfl (Or.inl rfl) rfl hb2 ?_
  refine Wp.iload_n 1 1 d_S_wide_4 rfl rfl ?_
  obtain ⟨e5, P6, hd7, ho8, H9⟩ := H4
  refine Wq.VI (st := []) [.inl x1] d_S_wide_5 k_Board_has ml_S_142 rfl (isB_lay hB3) rfl (fun h => by cases h) (Nat.le_of_ble_eq_true rfl) hd7 ho8 (fun z11 m12 hp13 hz14 hw15 => ?_)
  have H10 := H9 z11 m12 hp13 hz14 hw15
  obtain ⟨H17, H18⟩ := H10
  refine Wp.if_eq 22 d_S_wide_8 (by decide) (fun c16 => ?_) (fun c16 => ?_)
  · have H19 := H17 c16
    refine Wp.iconst d_S_wide_22 (by decide) ?_
    exact Wq.iret d_S_wide_23 rfl H19
  · have H20 := H18 c16
    refine Wp.aload_n 0 0 d_S_wide_11 rfl rfl ?_
    obtain ⟨b21, hb22, hB23, H24⟩ := H20
    refine Wp.getR b21 d_S_wide_12 fl_S_27 rfl (Or.inl rfl) rfl hb22 ?_
    refine Wp.iload_n 2 2 d_S_wide_15 rfl rfl ?_
    obtain ⟨e25, P26, hd27, ho28, H29⟩ := H24
    refine Wq.VI (st := []) [.inl x2] d_S_wide_16 k_Board_has ml_S_142 rfl (isB_lay hB23) rfl (fun h => by cases h) (Nat.le_of_ble_eq_true rfl) hd27 ho28 (fun z31 m32 hp33 hz34 hw35 => ?_)
    have H30 := H29 z31 m32 hp33 hz34 hw35
    obtain ⟨H37, H38⟩ := H30
    refine Wp.if_ne 24 d_S_wide_19 (by decide) (fun c36 => ?_) (fun c36 => ?_)
    · have H39 := H37 c36
      refine Wp.aload_n 0 0 d_S_wide_24 rfl rfl ?_
      obtain ⟨b41, hb42, hB43, H44⟩ := H39
      refine Wp.getR b41 d_S_wide_25 fl_S_27 rfl (Or.inl rfl) rfl hb42 ?_
      refine Wp.iload_n 1 1 d_S_wide_28 rfl rfl ?_
      refine Wp.iload_n 2 2 d_S_wide_29 rfl rfl ?_
      obtain ⟨e45, P46, hd47, ho48, H49⟩ := H44
      refine Wq.VI (st := []) [.inl x1, .inl x2] d_S_wide_30 k_Board_width ml_S_156 rfl (isB_lay hB43) rfl (fun h => by cases h) (Nat.le_of_ble_eq_true rfl) hd47 ho48 (fun z51 m52 hp53 hz54 hw55 => ?_)
      have H50 := H49 z51 m52 hp53 hz54 hw55
      exact Wq.iret d_S_wide_33 rfl H50
    · have H40 := H38 c36
      refine Wp.iconst d_S_wide_22 (by decide) ?_
      exact Wq.iret d_S_wide_23 rfl H40
theorem d_S_far_0 : decode Y_S_far.2.1 0 = .ok (.aload_n 0, 1) := by decide +kernel
theorem d_S_far_1 : decode Y_S_far.2.1 1 = .ok (.getfield 27, 3) := by decide +kernel
theorem d_S_far_4 : decode Y_S_far.2.1 4 = .ok (.iload_n 1, 1) := by decide +kernel
theorem d_S_far_5 : decode Y_S_far.2.1 5 = .ok (.invokevirtual 142, 3) := by decide +kernel
theorem d_S_far_8 : decode Y_S_far.2.1 8 = .ok (.ifCond .eq 15, 3) := by decide +kernel
theorem d_S_far_11 : decode Y_S_far.2.1 11 = .ok (.aload_n 0, 1) := by decide +kernel
theorem d_S_far_12 : decode Y_S_far.2.1 12 = .ok (.getfield 27, 3) := by decide +kernel
theorem d_S_far_15 : decode Y_S_far.2.1 15 = .ok (.getfield 160, 3) := by decide +kernel
theorem d_S_far_18 : decode Y_S_far.2.1 18 = .ok (.iload_n 1, 1) := by decide +kernel
theorem d_S_far_19 : decode Y_S_far.2.1 19 = .ok (.iaload, 1) := by decide +kernel
theorem d_S_far_20 : decode Y_S_far.2.1 20 = .ok (.goto 4, 3) := by decide +kernel
theorem d_S_far_23 : decode Y_S_far.2.1 23 = .ok (.iconst (-1), 1) := by decide +kernel
theorem d_S_far_24 : decode Y_S_far.2.1 24 = .ok (.ireturn, 1) := by decide +kernel
theorem e_S_far {l : Launch} {G : GT} {d : Nat} {P : Int → MM → Prop} {m : MM} (x1 : Int)  (H : wfM m → inR x1 → ∃ b1 : Nat, m 0 5 = b1 ∧ isB b1 ∧ (∃ (e5 : Nat) (P6 : Int → MM → Prop), e5 < d ∧ CI l G Y_Board_has e5 [.inr (.inr b1), .inl x1] m P6 ∧ (∀ z11 m12, P6 z11 m12 → inR z11 → wfM m12 → ((z11 = 0 → (P (-1) m12)) ∧ (¬ (z11 = 0) → (∃ b21 : Nat, m12 0 5 = b21 ∧ isB b21 ∧ ((0 ≤ x1 ∧ x1 < (5 : Int)) ∧ (P (m12 (b21 + 5) x1) m12)))))))) : CI l G Y_S_far d [.inr (.inr 0), .inl x1] m P := by
  refine CI.of [(0, .inr (.inr 0)), (1, .inl x1)] k_S_far.1 (Nat.le_of_ble_eq_true rfl) rfl (Wp.wf (fun hw _ hl hs => ?_))
  have H0 := H hw (hl _ (List.mem_of_getElem? (i := 1) rfl))
  refine Wp.aload_n 0 0 d_S_far_0 rfl rfl ?_
  obtain ⟨b1, hb2, hB3, H4⟩ := H0
  refine Wp.getR b1 d_S_far_1 fl_S_27 rfl (Or.inl rfl) rfl hb2 ?_
  refine Wp.iload_n 1 1 d_S_far_4 rfl rfl ?_
  obtain ⟨e5, P6, hd7, ho8, H9⟩ := H4
  refine Wq.VI (st := []) [.inl x1] d_S_far_5 k_Board_has ml_S_142 rfl (isB_lay hB3) rfl (fun h => by cases h) (Nat.le_of_ble_eq_true rfl) hd7 ho8 (fun z11 m12 hp13 hz14 hw15 => ?_)
  have H10 := H9 z11 m12 hp13 hz14 hw15
  obtain ⟨H17, H18⟩ := H10
  refine Wp.if_eq 23 d_S_far_8 (by decide) (fun c16 => ?_) (fun c16 => ?_)
  · have H19 := H17 c16
    refine Wp.iconst d_S_far_23 (by decide) ?_
    exact Wq.iret d_S_far_24 rfl H19
  · have H20 := H18 c16
    refine Wp.aload_n 0 0 d_S_far_11 rfl rfl ?_
    obtain ⟨b21, hb22, hB23, H24⟩ := H20
    refine Wp.getR b21 d_S_far_12 fl_S_27 rfl (Or.inl rfl) rfl hb22 ?_
    refine Wp.getP (b21 + 5) d_S_far_15 fl_S_160 (isB_lay hB23) rfl (isB_p9 hB23) ?_
    refine Wp.iload_n 1 1 d_S_far_18 rfl rfl ?_
    obtain ⟨s25, H26⟩ := H24
    refine Wp.iald d_S_far_19 (isB_l9 hB23) (Or.inl rfl) s25.1 s25.2 ?_
    refine Wp.goto 24 d_S_far_20 (by decide) ?_
    exact Wq.iret d_S_far_24 rfl H26
theorem d_S_day_0 : decode Y_S_day.2.1 0 = .ok (.aload_n 0, 1) := by decide +kernel
theorem d_S_day_1 : decode Y_S_day.2.1 1 = .ok (.getfield 34, 3) := by decide +kernel
theorem d_S_day_4 : decode Y_S_day.2.1 4 = .ok (.bipush 6, 2) := by decide +kernel
theorem d_S_day_6 : decode Y_S_day.2.1 6 = .ok (.iaload, 1) := by decide +kernel
theorem d_S_day_7 : decode Y_S_day.2.1 7 = .ok (.sipush 999, 3) := by decide +kernel
theorem d_S_day_10 : decode Y_S_day.2.1 10 = .ok (.if_icmp .lt 5, 3) := by decide +kernel
theorem d_S_day_13 : decode Y_S_day.2.1 13 = .ok (.iconst (-1), 1) := by decide +kernel
theorem d_S_day_14 : decode Y_S_day.2.1 14 = .ok (.ireturn, 1) := by decide +kernel
theorem d_S_day_15 : decode Y_S_day.2.1 15 = .ok (.aload_n 0, 1) := by decide +kernel
theorem d_S_day_16 : decode Y_S_day.2.1 16 = .ok (.aload_n 0, 1) := by decide +kernel
theorem d_S_day_17 : decode Y_S_day.2.1 17 = .ok (.getfield 34, 3) := by decide +kernel
theorem d_S_day_20 : decode Y_S_day.2.1 20 = .ok (.iconst 1, 1) := by decide +kernel
theorem d_S_day_21 : decode Y_S_day.2.1 21 = .ok (.invokevirtual 163, 3) := by decide +kernel
theorem d_S_day_24 : decode Y_S_day.2.1 24 = .ok (.istore_n 1, 1) := by decide +kernel
theorem d_S_day_25 : decode Y_S_day.2.1 25 = .ok (.aload_n 0, 1) := by decide +kernel
theorem d_S_day_26 : decode Y_S_day.2.1 26 = .ok (.getfield 46, 3) := by decide +kernel
theorem d_S_day_29 : decode Y_S_day.2.1 29 = .ok (.aload_n 0, 1) := by decide +kernel
theorem d_S_day_30 : decode Y_S_day.2.1 30 = .ok (.getfield 34, 3) := by decide +kernel
theorem d_S_day_33 : decode Y_S_day.2.1 33 = .ok (.invokevirtual 167, 3) := by decide +kernel
theorem d_S_day_36 : decode Y_S_day.2.1 36 = .ok (.iload_n 1, 1) := by decide +kernel
theorem d_S_day_37 : decode Y_S_day.2.1 37 = .ok (.ireturn, 1) := by decide +kernel
theorem e_S_day {l : Launch} {G : GT} {d : Nat} {P : Int → MM → Prop} {m : MM}   (H : wfM m → ((m 25 6) < 999 → (∃ (e6 : Nat) (P7 : Int → MM → Prop), e6 < d ∧ CI l G Y_S_passDay e6 [.inr (.inr 0), .inr (.inr 25), .inl 1] m P7 ∧ (∀ z12 m13, P7 z12 m13 → inR z12 → wfM m13 → (∃ (e17 : Nat) (P18 : MM → Prop), e17 < d ∧ CV l G Y_Acts_keep e17 [.inr (.inr 28), .inr (.inr 25)] m13 P18 ∧ (∀ m24, P18 m24 → wfM m24 → (P z12 m24)))))) ∧ (¬ ((m 25 6) < 999) → (P (-1) m))) : CI l G Y_S_day d [.inr (.inr 0)] m P := by
  refine CI.of [(0, .inr (.inr 0))] k_S_day.1 (Nat.le_of_ble_eq_true rfl) rfl (Wp.wf (fun hw _ hl hs => ?_))
  have H0 := H hw
  refine Wp.aload_n 0 0 d_S_day_0 rfl rfl ?_
  refine Wp.getP 25 d_S_day_1 fl_S_34 rfl rfl rfl ?_
  refine Wp.bipush d_S_day_4 (by decide) (by decide) ?_
  refine Wp.iald d_S_day_6 rfl (Or.inl rfl) (by decide) (by decide) ?_
  refine Wp.sipush d_S_day_7 (by decide) (by decide) ?_
  obtain ⟨H2, H3⟩ := H0
  refine Wp.icmp_lt 15 d_S_day_10 (by decide) (fun c1 => ?_) (fun c1 => ?_)
  · have H4 := H2 c1
    refine Wp.aload_n 0 0 d_S_day_15 rfl rfl ?_
    refine Wp.aload_n 0 0 d_S_day_16 rfl rfl ?_
    refine Wp.getP 25 d_S_day_17 fl_S_34 rfl rfl rfl ?_
    refine Wp.iconst d_S_day_20 (by decide) ?_
    obtain ⟨e6, P7, hd8, ho9, H10⟩ := H4
    refine Wq.VI (st := []) [.inr (.inr 25), .inl 1] d_S_day_21 k_S_passDay ml_S_163 rfl rfl rfl (fun h => by cases h) (Nat.le_of_ble_eq_true rfl) hd8 ho9 (fun z12 m13 hp14 hz15 hw16 => ?_)
    have H11 := H10 z12 m13 hp14 hz15 hw16
    refine Wp.istore_n 1 [(0, .inr (.inr 0)), (1, .inl z12)] d_S_day_24 rfl (by decide) rfl ?_
    refine Wp.aload_n 0 0 d_S_day_25 rfl rfl ?_
    refine Wp.getP 28 d_S_day_26 fl_S_46 rfl rfl rfl ?_
    refine Wp.aload_n 0 0 d_S_day_29 rfl rfl ?_
    refine Wp.getP 25 d_S_day_30 fl_S_34 rfl rfl rfl ?_
    obtain ⟨e17, P18, hd19, ho20, H21⟩ := H11
    refine Wq.VV (st := []) [.inr (.inr 25)] d_S_day_33 k_Acts_keep ml_S_167 rfl rfl rfl (fun h => by cases h) (Nat.le_of_ble_eq_true rfl) hd19 ho20 (fun m24 hp25 hw27 => ?_)
    have H22 := H21 m24 hp25 hw27
    refine Wp.iload_n 1 1 d_S_day_36 rfl rfl ?_
    exact Wq.iret d_S_day_37 rfl H22
  · have H5 := H3 c1
    refine Wp.iconst d_S_day_13 (by decide) ?_
    exact Wq.iret d_S_day_14 rfl H5
theorem d_S_passDay_0 : decode Y_S_passDay.2.1 0 = .ok (.iconst 0, 1) := by decide +kernel
theorem d_S_passDay_1 : decode Y_S_passDay.2.1 1 = .ok (.istore_n 3, 1) := by decide +kernel
theorem d_S_passDay_2 : decode Y_S_passDay.2.1 2 = .ok (.iload_n 3, 1) := by decide +kernel
theorem d_S_passDay_3 : decode Y_S_passDay.2.1 3 = .ok (.aload_n 0, 1) := by decide +kernel
theorem d_S_passDay_4 : decode Y_S_passDay.2.1 4 = .ok (.getfield 27, 3) := by decide +kernel
theorem d_S_passDay_7 : decode Y_S_passDay.2.1 7 = .ok (.getfield 119, 3) := by decide +kernel
theorem d_S_passDay_10 : decode Y_S_passDay.2.1 10 = .ok (.if_icmp .ge 54, 3) := by decide +kernel
theorem d_S_passDay_13 : decode Y_S_passDay.2.1 13 = .ok (.aload_n 0, 1) := by decide +kernel
theorem d_S_passDay_14 : decode Y_S_passDay.2.1 14 = .ok (.getfield 27, 3) := by decide +kernel
theorem d_S_passDay_17 : decode Y_S_passDay.2.1 17 = .ok (.getfield 170, 3) := by decide +kernel
theorem d_S_passDay_20 : decode Y_S_passDay.2.1 20 = .ok (.aload_n 1, 1) := by decide +kernel
theorem d_S_passDay_21 : decode Y_S_passDay.2.1 21 = .ok (.iload_n 3, 1) := by decide +kernel
theorem d_S_passDay_22 : decode Y_S_passDay.2.1 22 = .ok (.iaload, 1) := by decide +kernel
theorem d_S_passDay_23 : decode Y_S_passDay.2.1 23 = .ok (.aload_n 0, 1) := by decide +kernel
theorem d_S_passDay_24 : decode Y_S_passDay.2.1 24 = .ok (.getfield 27, 3) := by decide +kernel
theorem d_S_passDay_27 : decode Y_S_passDay.2.1 27 = .ok (.getfield 146, 3) := by decide +kernel
theorem d_S_passDay_30 : decode Y_S_passDay.2.1 30 = .ok (.iload_n 3, 1) := by decide +kernel
theorem d_S_passDay_31 : decode Y_S_passDay.2.1 31 = .ok (.iaload, 1) := by decide +kernel
theorem d_S_passDay_32 : decode Y_S_passDay.2.1 32 = .ok (.iload_n 3, 1) := by decide +kernel
theorem d_S_passDay_33 : decode Y_S_passDay.2.1 33 = .ok (.aload_n 1, 1) := by decide +kernel
theorem d_S_passDay_34 : decode Y_S_passDay.2.1 34 = .ok (.bipush 6, 2) := by decide +kernel
theorem d_S_passDay_36 : decode Y_S_passDay.2.1 36 = .ok (.iaload, 1) := by decide +kernel
theorem d_S_passDay_37 : decode Y_S_passDay.2.1 37 = .ok (.invokevirtual 174, 3) := by decide +kernel
theorem d_S_passDay_40 : decode Y_S_passDay.2.1 40 = .ok (.istore 4, 2) := by decide +kernel
theorem d_S_passDay_42 : decode Y_S_passDay.2.1 42 = .ok (.aload_n 1, 1) := by decide +kernel
theorem d_S_passDay_43 : decode Y_S_passDay.2.1 43 = .ok (.iload_n 3, 1) := by decide +kernel
theorem d_S_passDay_44 : decode Y_S_passDay.2.1 44 = .ok (.iconst 0, 1) := by decide +kernel
theorem d_S_passDay_45 : decode Y_S_passDay.2.1 45 = .ok (.bipush 20, 2) := by decide +kernel
theorem d_S_passDay_47 : decode Y_S_passDay.2.1 47 = .ok (.iload 4, 2) := by decide +kernel
theorem d_S_passDay_49 : decode Y_S_passDay.2.1 49 = .ok (.invokestatic 180, 3) := by decide +kernel
theorem d_S_passDay_52 : decode Y_S_passDay.2.1 52 = .ok (.invokestatic 185, 3) := by decide +kernel
theorem d_S_passDay_55 : decode Y_S_passDay.2.1 55 = .ok (.invokestatic 188, 3) := by decide +kernel
theorem d_S_passDay_58 : decode Y_S_passDay.2.1 58 = .ok (.iinc 3 1, 3) := by decide +kernel
theorem d_S_passDay_61 : decode Y_S_passDay.2.1 61 = .ok (.goto (-59), 3) := by decide +kernel
theorem d_S_passDay_64 : decode Y_S_passDay.2.1 64 = .ok (.aload_n 1, 1) := by decide +kernel
theorem d_S_passDay_65 : decode Y_S_passDay.2.1 65 = .ok (.bipush 7, 2) := by decide +kernel
theorem d_S_passDay_67 : decode Y_S_passDay.2.1 67 = .ok (.aload_n 1, 1) := by decide +kernel
theorem d_S_passDay_68 : decode Y_S_passDay.2.1 68 = .ok (.bipush 7, 2) := by decide +kernel
theorem d_S_passDay_70 : decode Y_S_passDay.2.1 70 = .ok (.iaload, 1) := by decide +kernel
theorem d_S_passDay_71 : decode Y_S_passDay.2.1 71 = .ok (.sipush 137, 3) := by decide +kernel
theorem d_S_passDay_74 : decode Y_S_passDay.2.1 74 = .ok (.imul, 1) := by decide +kernel
theorem d_S_passDay_75 : decode Y_S_passDay.2.1 75 = .ok (.bipush 71, 2) := by decide +kernel
theorem d_S_passDay_77 : decode Y_S_passDay.2.1 77 = .ok (.iadd, 1) := by decide +kernel
theorem d_S_passDay_78 : decode Y_S_passDay.2.1 78 = .ok (.sipush 1000, 3) := by decide +kernel
theorem d_S_passDay_81 : decode Y_S_passDay.2.1 81 = .ok (.irem, 1) := by decide +kernel
theorem d_S_passDay_82 : decode Y_S_passDay.2.1 82 = .ok (.iastore, 1) := by decide +kernel
theorem d_S_passDay_83 : decode Y_S_passDay.2.1 83 = .ok (.iload_n 2, 1) := by decide +kernel
theorem d_S_passDay_84 : decode Y_S_passDay.2.1 84 = .ok (.ifCond .eq 47, 3) := by decide +kernel
theorem d_S_passDay_87 : decode Y_S_passDay.2.1 87 = .ok (.aload_n 0, 1) := by decide +kernel
theorem d_S_passDay_88 : decode Y_S_passDay.2.1 88 = .ok (.getfield 27, 3) := by decide +kernel
theorem d_S_passDay_91 : decode Y_S_passDay.2.1 91 = .ok (.getfield 119, 3) := by decide +kernel
theorem d_S_passDay_94 : decode Y_S_passDay.2.1 94 = .ok (.ifCond .le 37, 3) := by decide +kernel
theorem d_S_passDay_97 : decode Y_S_passDay.2.1 97 = .ok (.aload_n 1, 1) := by decide +kernel
theorem d_S_passDay_98 : decode Y_S_passDay.2.1 98 = .ok (.bipush 7, 2) := by decide +kernel
theorem d_S_passDay_100 : decode Y_S_passDay.2.1 100 = .ok (.iaload, 1) := by decide +kernel
theorem d_S_passDay_101 : decode Y_S_passDay.2.1 101 = .ok (.bipush 100, 2) := by decide +kernel
theorem d_S_passDay_103 : decode Y_S_passDay.2.1 103 = .ok (.irem, 1) := by decide +kernel
theorem d_S_passDay_104 : decode Y_S_passDay.2.1 104 = .ok (.aload_n 0, 1) := by decide +kernel
theorem d_S_passDay_105 : decode Y_S_passDay.2.1 105 = .ok (.getfield 27, 3) := by decide +kernel
theorem d_S_passDay_108 : decode Y_S_passDay.2.1 108 = .ok (.getfield 192, 3) := by decide +kernel
theorem d_S_passDay_111 : decode Y_S_passDay.2.1 111 = .ok (.if_icmp .ge 20, 3) := by decide +kernel
theorem d_S_passDay_114 : decode Y_S_passDay.2.1 114 = .ok (.aload_n 1, 1) := by decide +kernel
theorem d_S_passDay_115 : decode Y_S_passDay.2.1 115 = .ok (.aload_n 1, 1) := by decide +kernel
theorem d_S_passDay_116 : decode Y_S_passDay.2.1 116 = .ok (.bipush 7, 2) := by decide +kernel
theorem d_S_passDay_118 : decode Y_S_passDay.2.1 118 = .ok (.iaload, 1) := by decide +kernel
theorem d_S_passDay_119 : decode Y_S_passDay.2.1 119 = .ok (.aload_n 0, 1) := by decide +kernel
theorem d_S_passDay_120 : decode Y_S_passDay.2.1 120 = .ok (.getfield 27, 3) := by decide +kernel
theorem d_S_passDay_123 : decode Y_S_passDay.2.1 123 = .ok (.getfield 119, 3) := by decide +kernel
theorem d_S_passDay_126 : decode Y_S_passDay.2.1 126 = .ok (.irem, 1) := by decide +kernel
theorem d_S_passDay_127 : decode Y_S_passDay.2.1 127 = .ok (.iconst 1, 1) := by decide +kernel
theorem d_S_passDay_128 : decode Y_S_passDay.2.1 128 = .ok (.invokestatic 188, 3) := by decide +kernel
theorem d_S_passDay_131 : decode Y_S_passDay.2.1 131 = .ok (.aload_n 1, 1) := by decide +kernel
theorem d_S_passDay_132 : decode Y_S_passDay.2.1 132 = .ok (.bipush 6, 2) := by decide +kernel
theorem d_S_passDay_134 : decode Y_S_passDay.2.1 134 = .ok (.dup2, 1) := by decide +kernel
theorem d_S_passDay_135 : decode Y_S_passDay.2.1 135 = .ok (.iaload, 1) := by decide +kernel
theorem d_S_passDay_136 : decode Y_S_passDay.2.1 136 = .ok (.iconst 1, 1) := by decide +kernel
theorem d_S_passDay_137 : decode Y_S_passDay.2.1 137 = .ok (.iadd, 1) := by decide +kernel
theorem d_S_passDay_138 : decode Y_S_passDay.2.1 138 = .ok (.iastore, 1) := by decide +kernel
theorem d_S_passDay_139 : decode Y_S_passDay.2.1 139 = .ok (.aload_n 0, 1) := by decide +kernel
theorem d_S_passDay_140 : decode Y_S_passDay.2.1 140 = .ok (.aload_n 1, 1) := by decide +kernel
theorem d_S_passDay_141 : decode Y_S_passDay.2.1 141 = .ok (.invokevirtual 195, 3) := by decide +kernel
theorem d_S_passDay_144 : decode Y_S_passDay.2.1 144 = .ok (.ireturn, 1) := by decide +kernel
theorem e_S_passDay {l : Launch} {G : GT} {d : Nat} {P : Int → MM → Prop} {m : MM} (x2 : Int) (h1 : Nat) (n1 : Nat) (hl1 : q_lay h1 = .inr (0, n1)) (hlt_h1 : n1 < 2147483648) (H : wfM m → inR x2 → Wq l G false Y_S_passDay d (QI P) 2 [(0, .inr (.inr 0)), (1, .inr (.inr h1)), (2, .inl x2), (3, .inl 0)] [] m) : CI l G Y_S_passDay d [.inr (.inr 0), .inr (.inr h1), .inl x2] m P := by
  refine CI.of [(0, .inr (.inr 0)), (1, .inr (.inr h1)), (2, .inl x2)] k_S_passDay.1 (Nat.le_of_ble_eq_true rfl) rfl (Wp.wf (fun hw _ hl hs => ?_))
  have H0 := H hw (hl _ (List.mem_of_getElem? (i := 2) rfl))
  refine Wp.iconst d_S_passDay_0 (by decide) ?_
  refine Wp.istore_n 3 [(0, .inr (.inr 0)), (1, .inr (.inr h1)), (2, .inl x2), (3, .inl 0)] d_S_passDay_1 rfl (by decide) rfl ?_
  exact H0
theorem s_S_passDay_2 {l : Launch} {G : GT} {d : Nat} {P : Int → MM → Prop} {m : MM} (x2 : Int) (x3 : Int) (h1 : Nat) (n1 : Nat) (hl1 : q_lay h1 = .inr (0, n1)) (hlt_h1 : n1 < 2147483648) (hd1 : 1 ≤ d) (H : wfM m → inR x2 → inR x3 → ∃ b1 : Nat, m 0 5 = b1 ∧ isB b1 ∧ ((x3 ≥ (m b1 0) → ((7 < (n1 : Int)) ∧ ((inR ((m h1 7) * 137)) ∧ ((inR (((m h1 7) * 137) + 71)) ∧ ((7 < (n1 : Int)) ∧ (∀ m16, m16 = up m h1 7 (Int.tmod (((m h1 7) * 137) + 71) 1000) → ((x2 = 0 → ((6 < (n1 : Int)) ∧ ((inR ((m16 h1 6) + 1)) ∧ ((6 < (n1 : Int)) ∧ (∀ m30, m30 = up m16 h1 6 ((m16 h1 6) + 1) → (∃ (e35 : Nat) (P36 : Int → MM → Prop), e35 < d ∧ CI l G Y_S_calmDown e35 [.inr (.inr 0), .inr (.inr h1)] m30 P36 ∧ (∀ z41 m42, P36 z41 m42 → inR z41 → wfM m42 → (P z41 m42)))))))) ∧ (¬ (x2 = 0) → (∃ b48 : Nat, m16 0 5 = b48 ∧ isB b48 ∧ (((m16 b48 0) ≤ 0 → ((6 < (n1 : Int)) ∧ ((inR ((m16 h1 6) + 1)) ∧ ((6 < (n1 : Int)) ∧ (∀ m61, m61 = up m16 h1 6 ((m16 h1 6) + 1) → (∃ (e66 : Nat) (P67 : Int → MM → Prop), e66 < d ∧ CI l G Y_S_calmDown e66 [.inr (.inr 0), .inr (.inr h1)] m61 P67 ∧ (∀ z72 m73, P67 z72 m73 → inR z72 → wfM m73 → (P z72 m73)))))))) ∧ (¬ ((m16 b48 0) ≤ 0) → ((7 < (n1 : Int)) ∧ (∃ b81 : Nat, m16 0 5 = b81 ∧ isB b81 ∧ (((Int.tmod (m16 h1 7) 100) ≥ (m16 b81 2) → ((6 < (n1 : Int)) ∧ ((inR ((m16 h1 6) + 1)) ∧ ((6 < (n1 : Int)) ∧ (∀ m94, m94 = up m16 h1 6 ((m16 h1 6) + 1) → (∃ (e99 : Nat) (P100 : Int → MM → Prop), e99 < d ∧ CI l G Y_S_calmDown e99 [.inr (.inr 0), .inr (.inr h1)] m94 P100 ∧ (∀ z105 m106, P100 z105 m106 → inR z105 → wfM m106 → (P z105 m106)))))))) ∧ (¬ ((Int.tmod (m16 h1 7) 100) ≥ (m16 b81 2)) → ((7 < (n1 : Int)) ∧ (∃ b114 : Nat, m16 0 5 = b114 ∧ isB b114 ∧ (((m16 b114 0) ≠ 0) ∧ (∃ (e120 : Nat) (P121 : MM → Prop), e120 < d ∧ CV l G Y_S_addFallen e120 [.inr (.inr h1), .inl (Int.tmod (m16 h1 7) (m16 b114 0)), .inl 1] m16 P121 ∧ (∀ m127, P121 m127 → wfM m127 → ((6 < (n1 : Int)) ∧ ((inR ((m127 h1 6) + 1)) ∧ ((6 < (n1 : Int)) ∧ (∀ m135, m135 = up m127 h1 6 ((m127 h1 6) + 1) → (∃ (e140 : Nat) (P141 : Int → MM → Prop), e140 < d ∧ CI l G Y_S_calmDown e140 [.inr (.inr 0), .inr (.inr h1)] m135 P141 ∧ (∀ z146 m147, P141 z146 m147 → inR z146 → wfM m147 → (P z146 m147))))))))))))))))))))))))))) ∧ (¬ (x3 ≥ (m b1 0)) → (∃ b155 : Nat, m 0 5 = b155 ∧ isB b155 ∧ ((0 ≤ x3 ∧ x3 < (n1 : Int)) ∧ (∃ b161 : Nat, m 0 5 = b161 ∧ isB b161 ∧ ((0 ≤ x3 ∧ x3 < (5 : Int)) ∧ ((6 < (n1 : Int)) ∧ (∃ (e169 : Nat) (P170 : Int → MM → Prop), e169 < d ∧ CI l G Y_Formula_worth e169 [.inr (.inr (b155 + 6)), .inl (m h1 x3), .inl (m (b161 + 4) x3), .inl x3, .inl (m h1 6)] m P170 ∧ (∀ z175 m176, P170 z175 m176 → inR z175 → wfM m176 → (∃ (e180 : Nat) (P181 : MM → Prop), e180 < d ∧ CV l G Y_S_addFallen e180 [.inr (.inr h1), .inl x3, .inl (max 0 (min 20 z175))] m176 P181 ∧ (∀ m187, P181 m187 → wfM m187 → ((inR (x3 + 1)) ∧ (Wq l G false Y_S_passDay d (QI P) 2 [(0, .inr (.inr 0)), (1, .inr (.inr h1)), (2, .inl x2), (3, .inl (x3 + 1))] [] m187)))))))))))))) : Wq l G false Y_S_passDay d (QI P) 2 [(0, .inr (.inr 0)), (1, .inr (.inr h1)), (2, .inl x2), (3, .inl x3)] [] m := by
  refine Wp.wf (fun hw _ hl hs => ?_)
  have H0 := H hw (hl _ (List.mem_of_getElem? (i := 2) rfl)) (hl _ (List.mem_of_getElem? (i := 3) rfl))
  refine Wp.iload_n 3 3 d_S_passDay_2 rfl rfl ?_
  refine Wp.aload_n 0 0 d_S_passDay_3 rfl rfl ?_
  obtain ⟨b1, hb2, hB3, H4⟩ := H0
  refine Wp.getR b1 d_S_passDay_4 fl_S_27 rfl (Or.inl rfl) rfl hb2 ?_
  refine Wq.getI 0 rfl d_S_passDay_7 fl_S_119 (isB_lay hB3) (Or.inl rfl) ?_
  obtain ⟨H6, H7⟩ := H4
  refine Wp.icmp_ge 64 d_S_passDay_10 (by decide) (fun c5 => ?_) (fun c5 => ?_)
  · have H8 := H6 c5
    refine Wp.aload_n 1 1 d_S_passDay_64 rfl rfl ?_
    refine Wp.bipush d_S_passDay_65 (by decide) (by decide) ?_
    refine Wp.aload_n 1 1 d_S_passDay_67 rfl rfl ?_
    refine Wp.bipush d_S_passDay_68 (by decide) (by decide) ?_
    obtain ⟨s10, H11⟩ := H8
    refine Wp.iald d_S_passDay_70 hl1 (Or.inl rfl) (by decide) s10 ?_
    refine Wp.sipush d_S_passDay_71 (by decide) (by decide) ?_
    obtain ⟨s12, H13⟩ := H11
    refine Wp.imul d_S_passDay_74 s12 ?_
    refine Wp.bipush d_S_passDay_75 (by decide) (by decide) ?_
    obtain ⟨s14, H15⟩ := H13
    refine Wp.iadd d_S_passDay_77 s14 ?_
    refine Wp.sipush d_S_passDay_78 (by decide) (by decide) ?_
    refine Wq.irem d_S_passDay_81 (by decide) ?_
    obtain ⟨s153, H154⟩ := H15
    refine Wq.iast d_S_passDay_82 hl1 (by decide) s153 (fun m16 hm17 => ?_)
    have H18 := H154 m16 hm17
    refine Wp.iload_n 2 2 d_S_passDay_83 rfl rfl ?_
    obtain ⟨H22, H23⟩ := H18
    refine Wp.if_eq 131 d_S_passDay_84 (by decide) (fun c21 => ?_) (fun c21 => ?_)
    · have H24 := H22 c21
      refine Wp.aload_n 1 1 d_S_passDay_131 rfl rfl ?_
      refine Wp.bipush d_S_passDay_132 (by decide) (by decide) ?_
      refine Wp.dup2 d_S_passDay_134 rfl rfl ?_
      obtain ⟨s26, H27⟩ := H24
      refine Wp.iald d_S_passDay_135 hl1 (Or.inl rfl) (by decide) s26 ?_
      refine Wp.iconst d_S_passDay_136 (by decide) ?_
      obtain ⟨s28, H29⟩ := H27
      refine Wp.iadd d_S_passDay_137 s28 ?_
      obtain ⟨s46, H47⟩ := H29
      refine Wq.iast d_S_passDay_138 hl1 (by decide) s46 (fun m30 hm31 => ?_)
      have H32 := H47 m30 hm31
      refine Wp.aload_n 0 0 d_S_passDay_139 rfl rfl ?_
      refine Wp.aload_n 1 1 d_S_passDay_140 rfl rfl ?_
      obtain ⟨e35, P36, hd37, ho38, H39⟩ := H32
      refine Wq.VI (st := []) [.inr (.inr h1)] d_S_passDay_141 k_S_calmDown ml_S_195 rfl rfl rfl (fun h => by cases h) (Nat.le_of_ble_eq_true rfl) hd37 ho38 (fun z41 m42 hp43 hz44 hw45 => ?_)
      have H40 := H39 z41 m42 hp43 hz44 hw45
      exact Wq.iret d_S_passDay_144 rfl H40
    · have H25 := H23 c21
      refine Wp.aload_n 0 0 d_S_passDay_87 rfl rfl ?_
      obtain ⟨b48, hb49, hB50, H51⟩ := H25
      refine Wp.getR b48 d_S_passDay_88 fl_S_27 rfl (Or.inl rfl) rfl hb49 ?_
      refine Wq.getI 0 rfl d_S_passDay_91 fl_S_119 (isB_lay hB50) (Or.inl rfl) ?_
      obtain ⟨H53, H54⟩ := H51
      refine Wp.if_le 131 d_S_passDay_94 (by decide) (fun c52 => ?_) (fun c52 => ?_)
      · have H55 := H53 c52
        refine Wp.aload_n 1 1 d_S_passDay_131 rfl rfl ?_
        refine Wp.bipush d_S_passDay_132 (by decide) (by decide) ?_
        refine Wp.dup2 d_S_passDay_134 rfl rfl ?_
        obtain ⟨s57, H58⟩ := H55
        refine Wp.iald d_S_passDay_135 hl1 (Or.inl rfl) (by decide) s57 ?_
        refine Wp.iconst d_S_passDay_136 (by decide) ?_
        obtain ⟨s59, H60⟩ := H58
        refine Wp.iadd d_S_passDay_137 s59 ?_
        obtain ⟨s77, H78⟩ := H60
        refine Wq.iast d_S_passDay_138 hl1 (by decide) s77 (fun m61 hm62 => ?_)
        have H63 := H78 m61 hm62
        refine Wp.aload_n 0 0 d_S_passDay_139 rfl rfl ?_
        refine Wp.aload_n 1 1 d_S_passDay_140 rfl rfl ?_
        obtain ⟨e66, P67, hd68, ho69, H70⟩ := H63
        refine Wq.VI (st := []) [.inr (.inr h1)] d_S_passDay_141 k_S_calmDown ml_S_195 rfl rfl rfl (fun h => by cases h) (Nat.le_of_ble_eq_true rfl) hd68 ho69 (fun z72 m73 hp74 hz75 hw76 => ?_)
        have H71 := H70 z72 m73 hp74 hz75 hw76
        exact Wq.iret d_S_passDay_144 rfl H71
      · have H56 := H54 c52
        refine Wp.aload_n 1 1 d_S_passDay_97 rfl rfl ?_
        refine Wp.bipush d_S_passDay_98 (by decide) (by decide) ?_
        obtain ⟨s79, H80⟩ := H56
        refine Wp.iald d_S_passDay_100 hl1 (Or.inl rfl) (by decide) s79 ?_
        refine Wp.bipush d_S_passDay_101 (by decide) (by decide) ?_
        refine Wq.irem d_S_passDay_103 (by decide) ?_
        refine Wp.aload_n 0 0 d_S_passDay_104 rfl rfl ?_
        obtain ⟨b81, hb82, hB83, H84⟩ := H80
        refine Wp.getR b81 d_S_passDay_105 fl_S_27 rfl (Or.inl rfl) rfl hb82 ?_
        refine Wq.getI 2 rfl d_S_passDay_108 fl_S_192 (isB_lay hB83) (Or.inl rfl) ?_
        obtain ⟨H86, H87⟩ := H84
        refine Wp.icmp_ge 131 d_S_passDay_111 (by decide) (fun c85 => ?_) (fun c85 => ?_)
        · have H88 := H86 c85
          refine Wp.aload_n 1 1 d_S_passDay_131 rfl rfl ?_
          refine Wp.bipush d_S_passDay_132 (by decide) (by decide) ?_
          refine Wp.dup2 d_S_passDay_134 rfl rfl ?_
          obtain ⟨s90, H91⟩ := H88
          refine Wp.iald d_S_passDay_135 hl1 (Or.inl rfl) (by decide) s90 ?_
          refine Wp.iconst d_S_passDay_136 (by decide) ?_
          obtain ⟨s92, H93⟩ := H91
          refine Wp.iadd d_S_passDay_137 s92 ?_
          obtain ⟨s110, H111⟩ := H93
          refine Wq.iast d_S_passDay_138 hl1 (by decide) s110 (fun m94 hm95 => ?_)
          have H96 := H111 m94 hm95
          refine Wp.aload_n 0 0 d_S_passDay_139 rfl rfl ?_
          refine Wp.aload_n 1 1 d_S_passDay_140 rfl rfl ?_
          obtain ⟨e99, P100, hd101, ho102, H103⟩ := H96
          refine Wq.VI (st := []) [.inr (.inr h1)] d_S_passDay_141 k_S_calmDown ml_S_195 rfl rfl rfl (fun h => by cases h) (Nat.le_of_ble_eq_true rfl) hd101 ho102 (fun z105 m106 hp107 hz108 hw109 => ?_)
          have H104 := H103 z105 m106 hp107 hz108 hw109
          exact Wq.iret d_S_passDay_144 rfl H104
        · have H89 := H87 c85
          refine Wp.aload_n 1 1 d_S_passDay_114 rfl rfl ?_
          refine Wp.aload_n 1 1 d_S_passDay_115 rfl rfl ?_
          refine Wp.bipush d_S_passDay_116 (by decide) (by decide) ?_
          obtain ⟨s112, H113⟩ := H89
          refine Wp.iald d_S_passDay_118 hl1 (Or.inl rfl) (by decide) s112 ?_
          refine Wp.aload_n 0 0 d_S_passDay_119 rfl rfl ?_
          obtain ⟨b114, hb115, hB116, H117⟩ := H113
          refine Wp.getR b114 d_S_passDay_120 fl_S_27 rfl (Or.inl rfl) rfl hb115 ?_
          refine Wq.getI 0 rfl d_S_passDay_123 fl_S_119 (isB_lay hB116) (Or.inl rfl) ?_
          obtain ⟨s118, H119⟩ := H117
          refine Wq.irem d_S_passDay_126 s118 ?_
          refine Wp.iconst d_S_passDay_127 (by decide) ?_
          obtain ⟨e120, P121, hd122, ho123, H124⟩ := H119
          refine Wq.SV (st := []) [.inr (.inr h1), .inl (Int.tmod (m16 h1 7) (m16 b114 0)), .inl 1] d_S_passDay_128 k_S_addFallen ml_S_188 rfl  (fun h => by cases h) (Nat.le_of_ble_eq_true rfl) hd122 ho123 (fun m127 hp128 hw130 => ?_)
          have H125 := H124 m127 hp128 hw130
          refine Wp.aload_n 1 1 d_S_passDay_131 rfl rfl ?_
          refine Wp.bipush d_S_passDay_132 (by decide) (by decide) ?_
          refine Wp.dup2 d_S_passDay_134 rfl rfl ?_
          obtain ⟨s131, H132⟩ := H125
          refine Wp.iald d_S_passDay_135 hl1 (Or.inl rfl) (by decide) s131 ?_
          refine Wp.iconst d_S_passDay_136 (by decide) ?_
          obtain ⟨s133, H134⟩ := H132
          refine Wp.iadd d_S_passDay_137 s133 ?_
          obtain ⟨s151, H152⟩ := H134
          refine Wq.iast d_S_passDay_138 hl1 (by decide) s151 (fun m135 hm136 => ?_)
          have H137 := H152 m135 hm136
          refine Wp.aload_n 0 0 d_S_passDay_139 rfl rfl ?_
          refine Wp.aload_n 1 1 d_S_passDay_140 rfl rfl ?_
          obtain ⟨e140, P141, hd142, ho143, H144⟩ := H137
          refine Wq.VI (st := []) [.inr (.inr h1)] d_S_passDay_141 k_S_calmDown ml_S_195 rfl rfl rfl (fun h => by cases h) (Nat.le_of_ble_eq_true rfl) hd142 ho143 (fun z146 m147 hp148 hz149 hw150 => ?_)
          have H145 := H144 z146 m147 hp148 hz149 hw150
          exact Wq.iret d_S_passDay_144 rfl H145
  · have H9 := H7 c5
    refine Wp.aload_n 0 0 d_S_passDay_13 rfl rfl ?_
    obtain ⟨b155, hb156, hB157, H158⟩ := H9
    refine Wp.getR b155 d_S_passDay_14 fl_S_27 rfl (Or.inl rfl) rfl hb156 ?_
    refine Wp.getP (b155 + 6) d_S_passDay_17 fl_S_170 (isB_lay hB157) rfl (isB_p10 hB157) ?_
    refine Wp.aload_n 1 1 d_S_passDay_20 rfl rfl ?_
    refine Wp.iload_n 3 3 d_S_passDay_21 rfl rfl ?_
    obtain ⟨s159, H160⟩ := H158
    refine Wp.iald d_S_passDay_22 hl1 (Or.inl rfl) s159.1 s159.2 ?_
    refine Wp.aload_n 0 0 d_S_passDay_23 rfl rfl ?_
    obtain ⟨b161, hb162, hB163, H164⟩ := H160
    refine Wp.getR b161 d_S_passDay_24 fl_S_27 rfl (Or.inl rfl) rfl hb162 ?_
    refine Wp.getP (b161 + 4) d_S_passDay_27 fl_S_146 (isB_lay hB163) rfl (isB_p8 hB163) ?_
    refine Wp.iload_n 3 3 d_S_passDay_30 rfl rfl ?_
    obtain ⟨s165, H166⟩ := H164
    refine Wp.iald d_S_passDay_31 (isB_l8 hB163) (Or.inl rfl) s165.1 s165.2 ?_
    refine Wp.iload_n 3 3 d_S_passDay_32 rfl rfl ?_
    refine Wp.aload_n 1 1 d_S_passDay_33 rfl rfl ?_
    refine Wp.bipush d_S_passDay_34 (by decide) (by decide) ?_
    obtain ⟨s167, H168⟩ := H166
    refine Wp.iald d_S_passDay_36 hl1 (Or.inl rfl) (by decide) s167 ?_
    obtain ⟨e169, P170, hd171, ho172, H173⟩ := H168
    refine Wq.VI (st := []) [.inl (m h1 x3), .inl (m (b161 + 4) x3), .inl x3, .inl (m h1 6)] d_S_passDay_37 k_Formula_worth ml_S_174 rfl (isF_lay (isB_f hB157)) rfl (fun h => by cases h) (Nat.le_of_ble_eq_true rfl) hd171 ho172 (fun z175 m176 hp177 hz178 hw179 => ?_)
    have H174 := H173 z175 m176 hp177 hz178 hw179
    refine Wp.istore 4 [(0, .inr (.inr 0)), (1, .inr (.inr h1)), (2, .inl x2), (3, .inl x3), (4, .inl z175)] d_S_passDay_40 (by decide) rfl ?_
    refine Wp.aload_n 1 1 d_S_passDay_42 rfl rfl ?_
    refine Wp.iload_n 3 3 d_S_passDay_43 rfl rfl ?_
    refine Wp.iconst d_S_passDay_44 (by decide) ?_
    refine Wp.bipush d_S_passDay_45 (by decide) (by decide) ?_
    refine Wp.iload 4 4 d_S_passDay_47 rfl ?_
    refine Wp.mmin d_S_passDay_49 ml_S_180 k_mmin hd1 (Nat.le_of_ble_eq_true rfl) ?_
    refine Wp.mmax d_S_passDay_52 ml_S_185 k_mmax hd1 (Nat.le_of_ble_eq_true rfl) ?_
    obtain ⟨e180, P181, hd182, ho183, H184⟩ := H174
    refine Wq.SV (st := []) [.inr (.inr h1), .inl x3, .inl (max 0 (min 20 z175))] d_S_passDay_55 k_S_addFallen ml_S_188 rfl  (fun h => by cases h) (Nat.le_of_ble_eq_true rfl) hd182 ho183 (fun m187 hp188 hw190 => ?_)
    have H185 := H184 m187 hp188 hw190
    obtain ⟨s191, H192⟩ := H185
    refine Wp.iinc 3 3 [(0, .inr (.inr 0)), (1, .inr (.inr h1)), (2, .inl x2), (3, .inl (x3 + 1)), (4, .inl z175)] d_S_passDay_58 rfl s191 (by decide) rfl ?_
    refine Wp.goto 2 d_S_passDay_61 (by decide) ?_
    refine Wp.pick [0, 1, 2, 3] [(0, .inr (.inr 0)), (1, .inr (.inr h1)), (2, .inl x2), (3, .inl (x3 + 1))] rfl ?_
    exact H192
theorem d_S_addFallen_0 : decode Y_S_addFallen.2.1 0 = .ok (.iload_n 1, 1) := by decide +kernel
theorem d_S_addFallen_1 : decode Y_S_addFallen.2.1 1 = .ok (.ifCond .lt 31, 3) := by decide +kernel
theorem d_S_addFallen_4 : decode Y_S_addFallen.2.1 4 = .ok (.iload_n 1, 1) := by decide +kernel
theorem d_S_addFallen_5 : decode Y_S_addFallen.2.1 5 = .ok (.iconst 5, 1) := by decide +kernel
theorem d_S_addFallen_6 : decode Y_S_addFallen.2.1 6 = .ok (.if_icmp .ge 26, 3) := by decide +kernel
theorem d_S_addFallen_9 : decode Y_S_addFallen.2.1 9 = .ok (.aload_n 0, 1) := by decide +kernel
theorem d_S_addFallen_10 : decode Y_S_addFallen.2.1 10 = .ok (.iload_n 1, 1) := by decide +kernel
theorem d_S_addFallen_11 : decode Y_S_addFallen.2.1 11 = .ok (.iaload, 1) := by decide +kernel
theorem d_S_addFallen_12 : decode Y_S_addFallen.2.1 12 = .ok (.sipush 999, 3) := by decide +kernel
theorem d_S_addFallen_15 : decode Y_S_addFallen.2.1 15 = .ok (.if_icmp .ge 17, 3) := by decide +kernel
theorem d_S_addFallen_18 : decode Y_S_addFallen.2.1 18 = .ok (.aload_n 0, 1) := by decide +kernel
theorem d_S_addFallen_19 : decode Y_S_addFallen.2.1 19 = .ok (.iload_n 1, 1) := by decide +kernel
theorem d_S_addFallen_20 : decode Y_S_addFallen.2.1 20 = .ok (.sipush 999, 3) := by decide +kernel
theorem d_S_addFallen_23 : decode Y_S_addFallen.2.1 23 = .ok (.aload_n 0, 1) := by decide +kernel
theorem d_S_addFallen_24 : decode Y_S_addFallen.2.1 24 = .ok (.iload_n 1, 1) := by decide +kernel
theorem d_S_addFallen_25 : decode Y_S_addFallen.2.1 25 = .ok (.iaload, 1) := by decide +kernel
theorem d_S_addFallen_26 : decode Y_S_addFallen.2.1 26 = .ok (.iload_n 2, 1) := by decide +kernel
theorem d_S_addFallen_27 : decode Y_S_addFallen.2.1 27 = .ok (.iadd, 1) := by decide +kernel
theorem d_S_addFallen_28 : decode Y_S_addFallen.2.1 28 = .ok (.invokestatic 180, 3) := by decide +kernel
theorem d_S_addFallen_31 : decode Y_S_addFallen.2.1 31 = .ok (.iastore, 1) := by decide +kernel
theorem d_S_addFallen_32 : decode Y_S_addFallen.2.1 32 = .ok (.return_, 1) := by decide +kernel
theorem e_S_addFallen {l : Launch} {G : GT} {d : Nat} {P : MM → Prop} {m : MM} (x1 : Int) (x2 : Int) (h0 : Nat) (n0 : Nat) (hl0 : q_lay h0 = .inr (0, n0)) (hlt_h0 : n0 < 2147483648) (hd1 : 1 ≤ d) (H : wfM m → inR x1 → inR x2 → (x1 < 0 → (P m)) ∧ (¬ (x1 < 0) → ((x1 ≥ 5 → (P m)) ∧ (¬ (x1 ≥ 5) → ((0 ≤ x1 ∧ x1 < (n0 : Int)) ∧ (((m h0 x1) ≥ 999 → (P m)) ∧ (¬ ((m h0 x1) ≥ 999) → ((0 ≤ x1 ∧ x1 < (n0 : Int)) ∧ ((inR ((m h0 x1) + x2)) ∧ ((0 ≤ x1 ∧ x1 < (n0 : Int)) ∧ (∀ m22, m22 = up m h0 x1 (min 999 ((m h0 x1) + x2)) → (P m22)))))))))))) : CV l G Y_S_addFallen d [.inr (.inr h0), .inl x1, .inl x2] m P := by
  refine CV.of [(0, .inr (.inr h0)), (1, .inl x1), (2, .inl x2)] k_S_addFallen.1 (Nat.le_of_ble_eq_true rfl) rfl (Wp.wf (fun hw _ hl hs => ?_))
  have H0 := H hw (hl _ (List.mem_of_getElem? (i := 1) rfl)) (hl _ (List.mem_of_getElem? (i := 2) rfl))
  refine Wp.iload_n 1 1 d_S_addFallen_0 rfl rfl ?_
  obtain ⟨H2, H3⟩ := H0
  refine Wp.if_lt 32 d_S_addFallen_1 (by decide) (fun c1 => ?_) (fun c1 => ?_)
  · have H4 := H2 c1
    exact Wq.vret d_S_addFallen_32 rfl H4
  · have H5 := H3 c1
    refine Wp.iload_n 1 1 d_S_addFallen_4 rfl rfl ?_
    refine Wp.iconst d_S_addFallen_5 (by decide) ?_
    obtain ⟨H7, H8⟩ := H5
    refine Wp.icmp_ge 32 d_S_addFallen_6 (by decide) (fun c6 => ?_) (fun c6 => ?_)
    · have H9 := H7 c6
      exact Wq.vret d_S_addFallen_32 rfl H9
    · have H10 := H8 c6
      refine Wp.aload_n 0 0 d_S_addFallen_9 rfl rfl ?_
      refine Wp.iload_n 1 1 d_S_addFallen_10 rfl rfl ?_
      obtain ⟨s11, H12⟩ := H10
      refine Wp.iald d_S_addFallen_11 hl0 (Or.inl rfl) s11.1 s11.2 ?_
      refine Wp.sipush d_S_addFallen_12 (by decide) (by decide) ?_
      obtain ⟨H14, H15⟩ := H12
      refine Wp.icmp_ge 32 d_S_addFallen_15 (by decide) (fun c13 => ?_) (fun c13 => ?_)
      · have H16 := H14 c13
        exact Wq.vret d_S_addFallen_32 rfl H16
      · have H17 := H15 c13
        refine Wp.aload_n 0 0 d_S_addFallen_18 rfl rfl ?_
        refine Wp.iload_n 1 1 d_S_addFallen_19 rfl rfl ?_
        refine Wp.sipush d_S_addFallen_20 (by decide) (by decide) ?_
        refine Wp.aload_n 0 0 d_S_addFallen_23 rfl rfl ?_
        refine Wp.iload_n 1 1 d_S_addFallen_24 rfl rfl ?_
        obtain ⟨s18, H19⟩ := H17
        refine Wp.iald d_S_addFallen_25 hl0 (Or.inl rfl) s18.1 s18.2 ?_
        refine Wp.iload_n 2 2 d_S_addFallen_26 rfl rfl ?_
        obtain ⟨s20, H21⟩ := H19
        refine Wp.iadd d_S_addFallen_27 s20 ?_
        refine Wp.mmin d_S_addFallen_28 ml_S_180 k_mmin hd1 (Nat.le_of_ble_eq_true rfl) ?_
        obtain ⟨s27, H28⟩ := H21
        refine Wq.iast d_S_addFallen_31 hl0 s27.1 s27.2 (fun m22 hm23 => ?_)
        have H24 := H28 m22 hm23
        exact Wq.vret d_S_addFallen_32 rfl H24
theorem d_S_calmDown_0 : decode Y_S_calmDown.2.1 0 = .ok (.aload_n 0, 1) := by decide +kernel
theorem d_S_calmDown_1 : decode Y_S_calmDown.2.1 1 = .ok (.getfield 60, 3) := by decide +kernel
theorem d_S_calmDown_4 : decode Y_S_calmDown.2.1 4 = .ok (.aload_n 1, 1) := by decide +kernel
theorem d_S_calmDown_5 : decode Y_S_calmDown.2.1 5 = .ok (.invokevirtual 199, 3) := by decide +kernel
theorem d_S_calmDown_8 : decode Y_S_calmDown.2.1 8 = .ok (.aload_n 0, 1) := by decide +kernel
theorem d_S_calmDown_9 : decode Y_S_calmDown.2.1 9 = .ok (.getfield 60, 3) := by decide +kernel
theorem d_S_calmDown_12 : decode Y_S_calmDown.2.1 12 = .ok (.aload_n 0, 1) := by decide +kernel
theorem d_S_calmDown_13 : decode Y_S_calmDown.2.1 13 = .ok (.getfield 27, 3) := by decide +kernel
theorem d_S_calmDown_16 : decode Y_S_calmDown.2.1 16 = .ok (.invokevirtual 202, 3) := by decide +kernel
theorem d_S_calmDown_19 : decode Y_S_calmDown.2.1 19 = .ok (.aload_n 0, 1) := by decide +kernel
theorem d_S_calmDown_20 : decode Y_S_calmDown.2.1 20 = .ok (.aload_n 1, 1) := by decide +kernel
theorem d_S_calmDown_21 : decode Y_S_calmDown.2.1 21 = .ok (.invokevirtual 205, 3) := by decide +kernel
theorem d_S_calmDown_24 : decode Y_S_calmDown.2.1 24 = .ok (.aload_n 0, 1) := by decide +kernel
theorem d_S_calmDown_25 : decode Y_S_calmDown.2.1 25 = .ok (.getfield 60, 3) := by decide +kernel
theorem d_S_calmDown_28 : decode Y_S_calmDown.2.1 28 = .ok (.getfield 208, 3) := by decide +kernel
theorem d_S_calmDown_31 : decode Y_S_calmDown.2.1 31 = .ok (.ireturn, 1) := by decide +kernel
theorem e_S_calmDown {l : Launch} {G : GT} {d : Nat} {P : Int → MM → Prop} {m : MM} (h1 : Nat) (n1 : Nat) (hl1 : q_lay h1 = .inr (0, n1)) (hlt_h1 : n1 < 2147483648) (H : wfM m → ∃ (e1 : Nat) (P2 : MM → Prop), e1 < d ∧ CV l G Y_Sand_take e1 [.inr (.inr 32), .inr (.inr h1)] m P2 ∧ (∀ m8, P2 m8 → wfM m8 → (∃ b12 : Nat, m8 0 5 = b12 ∧ isB b12 ∧ (∃ (e16 : Nat) (P17 : MM → Prop), e16 < d ∧ CV l G Y_Sand_calm e16 [.inr (.inr 32), .inr (.inr b12)] m8 P17 ∧ (∀ m23, P17 m23 → wfM m23 → (∃ (e27 : Nat) (P28 : MM → Prop), e27 < d ∧ CV l G Y_S_layBack e27 [.inr (.inr 0), .inr (.inr h1)] m23 P28 ∧ (∀ m34, P28 m34 → wfM m34 → (P (m34 32 2) m34)))))))) : CI l G Y_S_calmDown d [.inr (.inr 0), .inr (.inr h1)] m P := by
  refine CI.of [(0, .inr (.inr 0)), (1, .inr (.inr h1))] k_S_calmDown.1 (Nat.le_of_ble_eq_true rfl) rfl (Wp.wf (fun hw _ hl hs => ?_))
  have H0 := H hw
  refine Wp.aload_n 0 0 d_S_calmDown_0 rfl rfl ?_
  refine Wp.getP 32 d_S_calmDown_1 fl_S_60 rfl rfl rfl ?_
  refine Wp.aload_n 1 1 d_S_calmDown_4 rfl rfl ?_
  obtain ⟨e1, P2, hd3, ho4, H5⟩ := H0
  refine Wq.VV (st := []) [.inr (.inr h1)] d_S_calmDown_5 k_Sand_take ml_S_199 rfl rfl rfl (fun h => by cases h) (Nat.le_of_ble_eq_true rfl) hd3 ho4 (fun m8 hp9 hw11 => ?_)
  have H6 := H5 m8 hp9 hw11
  refine Wp.aload_n 0 0 d_S_calmDown_8 rfl rfl ?_
  refine Wp.getP 32 d_S_calmDown_9 fl_S_60 rfl rfl rfl ?_
  refine Wp.aload_n 0 0 d_S_calmDown_12 rfl rfl ?_
  obtain ⟨b12, hb13, hB14, H15⟩ := H6
  refine Wp.getR b12 d_S_calmDown_13 fl_S_27 rfl (Or.inl rfl) rfl hb13 ?_
  obtain ⟨e16, P17, hd18, ho19, H20⟩ := H15
  refine Wq.VV (st := []) [.inr (.inr b12)] d_S_calmDown_16 k_Sand_calm ml_S_202 rfl rfl rfl (fun h => by cases h) (Nat.le_of_ble_eq_true rfl) hd18 ho19 (fun m23 hp24 hw26 => ?_)
  have H21 := H20 m23 hp24 hw26
  refine Wp.aload_n 0 0 d_S_calmDown_19 rfl rfl ?_
  refine Wp.aload_n 1 1 d_S_calmDown_20 rfl rfl ?_
  obtain ⟨e27, P28, hd29, ho30, H31⟩ := H21
  refine Wq.VV (st := []) [.inr (.inr h1)] d_S_calmDown_21 k_S_layBack ml_S_205 rfl rfl rfl (fun h => by cases h) (Nat.le_of_ble_eq_true rfl) hd29 ho30 (fun m34 hp35 hw37 => ?_)
  have H32 := H31 m34 hp35 hw37
  refine Wp.aload_n 0 0 d_S_calmDown_24 rfl rfl ?_
  refine Wp.getP 32 d_S_calmDown_25 fl_S_60 rfl rfl rfl ?_
  refine Wq.getI 2 rfl d_S_calmDown_28 fl_S_208 rfl (Or.inl rfl) ?_
  exact Wq.iret d_S_calmDown_31 rfl H32
theorem d_S_layBack_0 : decode Y_S_layBack.2.1 0 = .ok (.iconst 0, 1) := by decide +kernel
theorem d_S_layBack_1 : decode Y_S_layBack.2.1 1 = .ok (.istore_n 2, 1) := by decide +kernel
theorem d_S_layBack_2 : decode Y_S_layBack.2.1 2 = .ok (.iload_n 2, 1) := by decide +kernel
theorem d_S_layBack_3 : decode Y_S_layBack.2.1 3 = .ok (.aload_n 0, 1) := by decide +kernel
theorem d_S_layBack_4 : decode Y_S_layBack.2.1 4 = .ok (.getfield 27, 3) := by decide +kernel
theorem d_S_layBack_7 : decode Y_S_layBack.2.1 7 = .ok (.getfield 119, 3) := by decide +kernel
theorem d_S_layBack_10 : decode Y_S_layBack.2.1 10 = .ok (.if_icmp .ge 21, 3) := by decide +kernel
theorem d_S_layBack_13 : decode Y_S_layBack.2.1 13 = .ok (.aload_n 1, 1) := by decide +kernel
theorem d_S_layBack_14 : decode Y_S_layBack.2.1 14 = .ok (.iload_n 2, 1) := by decide +kernel
theorem d_S_layBack_15 : decode Y_S_layBack.2.1 15 = .ok (.aload_n 0, 1) := by decide +kernel
theorem d_S_layBack_16 : decode Y_S_layBack.2.1 16 = .ok (.getfield 60, 3) := by decide +kernel
theorem d_S_layBack_19 : decode Y_S_layBack.2.1 19 = .ok (.getfield 211, 3) := by decide +kernel
theorem d_S_layBack_22 : decode Y_S_layBack.2.1 22 = .ok (.iload_n 2, 1) := by decide +kernel
theorem d_S_layBack_23 : decode Y_S_layBack.2.1 23 = .ok (.iaload, 1) := by decide +kernel
theorem d_S_layBack_24 : decode Y_S_layBack.2.1 24 = .ok (.iastore, 1) := by decide +kernel
theorem d_S_layBack_25 : decode Y_S_layBack.2.1 25 = .ok (.iinc 2 1, 3) := by decide +kernel
theorem d_S_layBack_28 : decode Y_S_layBack.2.1 28 = .ok (.goto (-26), 3) := by decide +kernel
theorem d_S_layBack_31 : decode Y_S_layBack.2.1 31 = .ok (.aload_n 1, 1) := by decide +kernel
theorem d_S_layBack_32 : decode Y_S_layBack.2.1 32 = .ok (.iconst 5, 1) := by decide +kernel
theorem d_S_layBack_33 : decode Y_S_layBack.2.1 33 = .ok (.dup2, 1) := by decide +kernel
theorem d_S_layBack_34 : decode Y_S_layBack.2.1 34 = .ok (.iaload, 1) := by decide +kernel
theorem d_S_layBack_35 : decode Y_S_layBack.2.1 35 = .ok (.aload_n 0, 1) := by decide +kernel
theorem d_S_layBack_36 : decode Y_S_layBack.2.1 36 = .ok (.getfield 60, 3) := by decide +kernel
theorem d_S_layBack_39 : decode Y_S_layBack.2.1 39 = .ok (.getfield 214, 3) := by decide +kernel
theorem d_S_layBack_42 : decode Y_S_layBack.2.1 42 = .ok (.iadd, 1) := by decide +kernel
theorem d_S_layBack_43 : decode Y_S_layBack.2.1 43 = .ok (.iastore, 1) := by decide +kernel
theorem d_S_layBack_44 : decode Y_S_layBack.2.1 44 = .ok (.return_, 1) := by decide +kernel
theorem e_S_layBack {l : Launch} {G : GT} {d : Nat} {P : MM → Prop} {m : MM} (h1 : Nat) (n1 : Nat) (hl1 : q_lay h1 = .inr (0, n1)) (hlt_h1 : n1 < 2147483648) (H : wfM m → Wq l G false Y_S_layBack d (QV P) 2 [(0, .inr (.inr 0)), (1, .inr (.inr h1)), (2, .inl 0)] [] m) : CV l G Y_S_layBack d [.inr (.inr 0), .inr (.inr h1)] m P := by
  refine CV.of [(0, .inr (.inr 0)), (1, .inr (.inr h1))] k_S_layBack.1 (Nat.le_of_ble_eq_true rfl) rfl (Wp.wf (fun hw _ hl hs => ?_))
  have H0 := H hw
  refine Wp.iconst d_S_layBack_0 (by decide) ?_
  refine Wp.istore_n 2 [(0, .inr (.inr 0)), (1, .inr (.inr h1)), (2, .inl 0)] d_S_layBack_1 rfl (by decide) rfl ?_
  exact H0
theorem s_S_layBack_2 {l : Launch} {G : GT} {d : Nat} {P : MM → Prop} {m : MM} (x2 : Int) (h1 : Nat) (n1 : Nat) (hl1 : q_lay h1 = .inr (0, n1)) (hlt_h1 : n1 < 2147483648) (H : wfM m → inR x2 → ∃ b1 : Nat, m 0 5 = b1 ∧ isB b1 ∧ ((x2 ≥ (m b1 0) → ((5 < (n1 : Int)) ∧ ((inR ((m h1 5) + (m 32 3))) ∧ ((5 < (n1 : Int)) ∧ (∀ m14, m14 = up m h1 5 ((m h1 5) + (m 32 3)) → (P m14)))))) ∧ (¬ (x2 ≥ (m b1 0)) → ((0 ≤ x2 ∧ x2 < (5 : Int)) ∧ ((0 ≤ x2 ∧ x2 < (n1 : Int)) ∧ (∀ m23, m23 = up m h1 x2 (m 33 x2) → ((inR (x2 + 1)) ∧ (Wq l G false Y_S_layBack d (QV P) 2 [(0, .inr (.inr 0)), (1, .inr (.inr h1)), (2, .inl (x2 + 1))] [] m23)))))))) : Wq l G false Y_S_layBack d (QV P) 2 [(0, .inr (.inr 0)), (1, .inr (.inr h1)), (2, .inl x2)] [] m := by
  refine Wp.wf (fun hw _ hl hs => ?_)
  have H0 := H hw (hl _ (List.mem_of_getElem? (i := 2) rfl))
  refine Wp.iload_n 2 2 d_S_layBack_2 rfl rfl ?_
  refine Wp.aload_n 0 0 d_S_layBack_3 rfl rfl ?_
  obtain ⟨b1, hb2, hB3, H4⟩ := H0
  refine Wp.getR b1 d_S_layBack_4 fl_S_27 rfl (Or.inl rfl) rfl hb2 ?_
  refine Wq.getI 0 rfl d_S_layBack_7 fl_S_119 (isB_lay hB3) (Or.inl rfl) ?_
  obtain ⟨H6, H7⟩ := H4
  refine Wp.icmp_ge 31 d_S_layBack_10 (by decide) (fun c5 => ?_) (fun c5 => ?_)
  · have H8 := H6 c5
    refine Wp.aload_n 1 1 d_S_layBack_31 rfl rfl ?_
    refine Wp.iconst d_S_layBack_32 (by decide) ?_
    refine Wp.dup2 d_S_layBack_33 rfl rfl ?_
    obtain ⟨s10, H11⟩ := H8
    refine Wp.iald d_S_layBack_34 hl1 (Or.inl rfl) (by decide) s10 ?_
    refine Wp.aload_n 0 0 d_S_layBack_35 rfl rfl ?_
    refine Wp.getP 32 d_S_layBack_36 fl_S_60 rfl rfl rfl ?_
    refine Wq.getI 3 rfl d_S_layBack_39 fl_S_214 rfl (Or.inl rfl) ?_
    obtain ⟨s12, H13⟩ := H11
    refine Wp.iadd d_S_layBack_42 s12 ?_
    obtain ⟨s19, H20⟩ := H13
    refine Wq.iast d_S_layBack_43 hl1 (by decide) s19 (fun m14 hm15 => ?_)
    have H16 := H20 m14 hm15
    exact Wq.vret d_S_layBack_44 rfl H16
  · have H9 := H7 c5
    refine Wp.aload_n 1 1 d_S_layBack_13 rfl rfl ?_
    refine Wp.iload_n 2 2 d_S_layBack_14 rfl rfl ?_
    refine Wp.aload_n 0 0 d_S_layBack_15 rfl rfl ?_
    refine Wp.getP 32 d_S_layBack_16 fl_S_60 rfl rfl rfl ?_
    refine Wp.getP 33 d_S_layBack_19 fl_S_211 rfl rfl rfl ?_
    refine Wp.iload_n 2 2 d_S_layBack_22 rfl rfl ?_
    obtain ⟨s21, H22⟩ := H9
    refine Wp.iald d_S_layBack_23 rfl (Or.inl rfl) s21.1 s21.2 ?_
    obtain ⟨s30, H31⟩ := H22
    refine Wq.iast d_S_layBack_24 hl1 s30.1 s30.2 (fun m23 hm24 => ?_)
    have H25 := H31 m23 hm24
    obtain ⟨s28, H29⟩ := H25
    refine Wp.iinc 2 2 [(0, .inr (.inr 0)), (1, .inr (.inr h1)), (2, .inl (x2 + 1))] d_S_layBack_25 rfl s28 (by decide) rfl ?_
    refine Wp.goto 2 d_S_layBack_28 (by decide) ?_
    exact H29
theorem d_S_drop_0 : decode Y_S_drop.2.1 0 = .ok (.aload_n 0, 1) := by decide +kernel
theorem d_S_drop_1 : decode Y_S_drop.2.1 1 = .ok (.getfield 27, 3) := by decide +kernel
theorem d_S_drop_4 : decode Y_S_drop.2.1 4 = .ok (.iload_n 1, 1) := by decide +kernel
theorem d_S_drop_5 : decode Y_S_drop.2.1 5 = .ok (.invokevirtual 142, 3) := by decide +kernel
theorem d_S_drop_8 : decode Y_S_drop.2.1 8 = .ok (.ifCond .eq 28, 3) := by decide +kernel
theorem d_S_drop_11 : decode Y_S_drop.2.1 11 = .ok (.iload_n 2, 1) := by decide +kernel
theorem d_S_drop_12 : decode Y_S_drop.2.1 12 = .ok (.iconst 1, 1) := by decide +kernel
theorem d_S_drop_13 : decode Y_S_drop.2.1 13 = .ok (.if_icmp .lt 23, 3) := by decide +kernel
theorem d_S_drop_16 : decode Y_S_drop.2.1 16 = .ok (.iload_n 2, 1) := by decide +kernel
theorem d_S_drop_17 : decode Y_S_drop.2.1 17 = .ok (.bipush 20, 2) := by decide +kernel
theorem d_S_drop_19 : decode Y_S_drop.2.1 19 = .ok (.if_icmp .gt 17, 3) := by decide +kernel
theorem d_S_drop_22 : decode Y_S_drop.2.1 22 = .ok (.aload_n 0, 1) := by decide +kernel
theorem d_S_drop_23 : decode Y_S_drop.2.1 23 = .ok (.getfield 34, 3) := by decide +kernel
theorem d_S_drop_26 : decode Y_S_drop.2.1 26 = .ok (.iload_n 1, 1) := by decide +kernel
theorem d_S_drop_27 : decode Y_S_drop.2.1 27 = .ok (.iaload, 1) := by decide +kernel
theorem d_S_drop_28 : decode Y_S_drop.2.1 28 = .ok (.iload_n 2, 1) := by decide +kernel
theorem d_S_drop_29 : decode Y_S_drop.2.1 29 = .ok (.iadd, 1) := by decide +kernel
theorem d_S_drop_30 : decode Y_S_drop.2.1 30 = .ok (.sipush 999, 3) := by decide +kernel
theorem d_S_drop_33 : decode Y_S_drop.2.1 33 = .ok (.if_icmp .le 5, 3) := by decide +kernel
theorem d_S_drop_36 : decode Y_S_drop.2.1 36 = .ok (.iconst (-1), 1) := by decide +kernel
theorem d_S_drop_37 : decode Y_S_drop.2.1 37 = .ok (.ireturn, 1) := by decide +kernel
theorem d_S_drop_38 : decode Y_S_drop.2.1 38 = .ok (.aload_n 0, 1) := by decide +kernel
theorem d_S_drop_39 : decode Y_S_drop.2.1 39 = .ok (.getfield 34, 3) := by decide +kernel
theorem d_S_drop_42 : decode Y_S_drop.2.1 42 = .ok (.iload_n 1, 1) := by decide +kernel
theorem d_S_drop_43 : decode Y_S_drop.2.1 43 = .ok (.dup2, 1) := by decide +kernel
theorem d_S_drop_44 : decode Y_S_drop.2.1 44 = .ok (.iaload, 1) := by decide +kernel
theorem d_S_drop_45 : decode Y_S_drop.2.1 45 = .ok (.iload_n 2, 1) := by decide +kernel
theorem d_S_drop_46 : decode Y_S_drop.2.1 46 = .ok (.iadd, 1) := by decide +kernel
theorem d_S_drop_47 : decode Y_S_drop.2.1 47 = .ok (.iastore, 1) := by decide +kernel
theorem d_S_drop_48 : decode Y_S_drop.2.1 48 = .ok (.aload_n 0, 1) := by decide +kernel
theorem d_S_drop_49 : decode Y_S_drop.2.1 49 = .ok (.getfield 46, 3) := by decide +kernel
theorem d_S_drop_52 : decode Y_S_drop.2.1 52 = .ok (.aload_n 0, 1) := by decide +kernel
theorem d_S_drop_53 : decode Y_S_drop.2.1 53 = .ok (.getfield 34, 3) := by decide +kernel
theorem d_S_drop_56 : decode Y_S_drop.2.1 56 = .ok (.invokevirtual 167, 3) := by decide +kernel
theorem d_S_drop_59 : decode Y_S_drop.2.1 59 = .ok (.aload_n 0, 1) := by decide +kernel
theorem d_S_drop_60 : decode Y_S_drop.2.1 60 = .ok (.getfield 34, 3) := by decide +kernel
theorem d_S_drop_63 : decode Y_S_drop.2.1 63 = .ok (.iload_n 1, 1) := by decide +kernel
theorem d_S_drop_64 : decode Y_S_drop.2.1 64 = .ok (.iaload, 1) := by decide +kernel
theorem d_S_drop_65 : decode Y_S_drop.2.1 65 = .ok (.ireturn, 1) := by decide +kernel
theorem e_S_drop {l : Launch} {G : GT} {d : Nat} {P : Int → MM → Prop} {m : MM} (x1 : Int) (x2 : Int)  (H : wfM m → inR x1 → inR x2 → ∃ b1 : Nat, m 0 5 = b1 ∧ isB b1 ∧ (∃ (e5 : Nat) (P6 : Int → MM → Prop), e5 < d ∧ CI l G Y_Board_has e5 [.inr (.inr b1), .inl x1] m P6 ∧ (∀ z11 m12, P6 z11 m12 → inR z11 → wfM m12 → ((z11 = 0 → (P (-1) m12)) ∧ (¬ (z11 = 0) → ((x2 < 1 → (P (-1) m12)) ∧ (¬ (x2 < 1) → ((x2 > 20 → (P (-1) m12)) ∧ (¬ (x2 > 20) → ((0 ≤ x1 ∧ x1 < (8 : Int)) ∧ ((inR ((m12 25 x1) + x2)) ∧ ((((m12 25 x1) + x2) ≤ 999 → ((0 ≤ x1 ∧ x1 < (8 : Int)) ∧ ((inR ((m12 25 x1) + x2)) ∧ ((0 ≤ x1 ∧ x1 < (8 : Int)) ∧ (∀ m44, m44 = up m12 25 x1 ((m12 25 x1) + x2) → (∃ (e49 : Nat) (P50 : MM → Prop), e49 < d ∧ CV l G Y_Acts_keep e49 [.inr (.inr 28), .inr (.inr 25)] m44 P50 ∧ (∀ m56, P50 m56 → wfM m56 → ((0 ≤ x1 ∧ x1 < (8 : Int)) ∧ (P (m56 25 x1) m56))))))))) ∧ (¬ (((m12 25 x1) + x2) ≤ 999) → (P (-1) m12)))))))))))))) : CI l G Y_S_drop d [.inr (.inr 0), .inl x1, .inl x2] m P := by
  refine CI.of [(0, .inr (.inr 0)), (1, .inl x1), (2, .inl x2)] k_S_drop.1 (Nat.le_of_ble_eq_true rfl) rfl (Wp.wf (fun hw _ hl hs => ?_))
  have H0 := H hw (hl _ (List.mem_of_getElem? (i := 1) rfl)) (hl _ (List.mem_of_getElem? (i := 2) rfl))
  refine Wp.aload_n 0 0 d_S_drop_0 rfl rfl ?_
  obtain ⟨b1, hb2, hB3, H4⟩ := H0
  refine Wp.getR b1 d_S_drop_1 fl_S_27 rfl (Or.inl rfl) rfl hb2 ?_
  refine Wp.iload_n 1 1 d_S_drop_4 rfl rfl ?_
  obtain ⟨e5, P6, hd7, ho8, H9⟩ := H4
  refine Wq.VI (st := []) [.inl x1] d_S_drop_5 k_Board_has ml_S_142 rfl (isB_lay hB3) rfl (fun h => by cases h) (Nat.le_of_ble_eq_true rfl) hd7 ho8 (fun z11 m12 hp13 hz14 hw15 => ?_)
  have H10 := H9 z11 m12 hp13 hz14 hw15
  obtain ⟨H17, H18⟩ := H10
  refine Wp.if_eq 36 d_S_drop_8 (by decide) (fun c16 => ?_) (fun c16 => ?_)
  · have H19 := H17 c16
    refine Wp.iconst d_S_drop_36 (by decide) ?_
    exact Wq.iret d_S_drop_37 rfl H19
  · have H20 := H18 c16
    refine Wp.iload_n 2 2 d_S_drop_11 rfl rfl ?_
    refine Wp.iconst d_S_drop_12 (by decide) ?_
    obtain ⟨H22, H23⟩ := H20
    refine Wp.icmp_lt 36 d_S_drop_13 (by decide) (fun c21 => ?_) (fun c21 => ?_)
    · have H24 := H22 c21
      refine Wp.iconst d_S_drop_36 (by decide) ?_
      exact Wq.iret d_S_drop_37 rfl H24
    · have H25 := H23 c21
      refine Wp.iload_n 2 2 d_S_drop_16 rfl rfl ?_
      refine Wp.bipush d_S_drop_17 (by decide) (by decide) ?_
      obtain ⟨H27, H28⟩ := H25
      refine Wp.icmp_gt 36 d_S_drop_19 (by decide) (fun c26 => ?_) (fun c26 => ?_)
      · have H29 := H27 c26
        refine Wp.iconst d_S_drop_36 (by decide) ?_
        exact Wq.iret d_S_drop_37 rfl H29
      · have H30 := H28 c26
        refine Wp.aload_n 0 0 d_S_drop_22 rfl rfl ?_
        refine Wp.getP 25 d_S_drop_23 fl_S_34 rfl rfl rfl ?_
        refine Wp.iload_n 1 1 d_S_drop_26 rfl rfl ?_
        obtain ⟨s31, H32⟩ := H30
        refine Wp.iald d_S_drop_27 rfl (Or.inl rfl) s31.1 s31.2 ?_
        refine Wp.iload_n 2 2 d_S_drop_28 rfl rfl ?_
        obtain ⟨s33, H34⟩ := H32
        refine Wp.iadd d_S_drop_29 s33 ?_
        refine Wp.sipush d_S_drop_30 (by decide) (by decide) ?_
        obtain ⟨H36, H37⟩ := H34
        refine Wp.icmp_le 38 d_S_drop_33 (by decide) (fun c35 => ?_) (fun c35 => ?_)
        · have H38 := H36 c35
          refine Wp.aload_n 0 0 d_S_drop_38 rfl rfl ?_
          refine Wp.getP 25 d_S_drop_39 fl_S_34 rfl rfl rfl ?_
          refine Wp.iload_n 1 1 d_S_drop_42 rfl rfl ?_
          refine Wp.dup2 d_S_drop_43 rfl rfl ?_
          obtain ⟨s40, H41⟩ := H38
          refine Wp.iald d_S_drop_44 rfl (Or.inl rfl) s40.1 s40.2 ?_
          refine Wp.iload_n 2 2 d_S_drop_45 rfl rfl ?_
          obtain ⟨s42, H43⟩ := H41
          refine Wp.iadd d_S_drop_46 s42 ?_
          obtain ⟨s62, H63⟩ := H43
          refine Wq.iast d_S_drop_47 rfl s62.1 s62.2 (fun m44 hm45 => ?_)
          have H46 := H63 m44 hm45
          refine Wp.aload_n 0 0 d_S_drop_48 rfl rfl ?_
          refine Wp.getP 28 d_S_drop_49 fl_S_46 rfl rfl rfl ?_
          refine Wp.aload_n 0 0 d_S_drop_52 rfl rfl ?_
          refine Wp.getP 25 d_S_drop_53 fl_S_34 rfl rfl rfl ?_
          obtain ⟨e49, P50, hd51, ho52, H53⟩ := H46
          refine Wq.VV (st := []) [.inr (.inr 25)] d_S_drop_56 k_Acts_keep ml_S_167 rfl rfl rfl (fun h => by cases h) (Nat.le_of_ble_eq_true rfl) hd51 ho52 (fun m56 hp57 hw59 => ?_)
          have H54 := H53 m56 hp57 hw59
          refine Wp.aload_n 0 0 d_S_drop_59 rfl rfl ?_
          refine Wp.getP 25 d_S_drop_60 fl_S_34 rfl rfl rfl ?_
          refine Wp.iload_n 1 1 d_S_drop_63 rfl rfl ?_
          obtain ⟨s60, H61⟩ := H54
          refine Wp.iald d_S_drop_64 rfl (Or.inl rfl) s60.1 s60.2 ?_
          exact Wq.iret d_S_drop_65 rfl H61
        · have H39 := H37 c35
          refine Wp.iconst d_S_drop_36 (by decide) ?_
          exact Wq.iret d_S_drop_37 rfl H39
theorem d_S_topple_0 : decode Y_S_topple.2.1 0 = .ok (.aload_n 0, 1) := by decide +kernel
theorem d_S_topple_1 : decode Y_S_topple.2.1 1 = .ok (.getfield 27, 3) := by decide +kernel
theorem d_S_topple_4 : decode Y_S_topple.2.1 4 = .ok (.iload_n 1, 1) := by decide +kernel
theorem d_S_topple_5 : decode Y_S_topple.2.1 5 = .ok (.invokevirtual 142, 3) := by decide +kernel
theorem d_S_topple_8 : decode Y_S_topple.2.1 8 = .ok (.ifCond .eq 21, 3) := by decide +kernel
theorem d_S_topple_11 : decode Y_S_topple.2.1 11 = .ok (.aload_n 0, 1) := by decide +kernel
theorem d_S_topple_12 : decode Y_S_topple.2.1 12 = .ok (.getfield 34, 3) := by decide +kernel
theorem d_S_topple_15 : decode Y_S_topple.2.1 15 = .ok (.iload_n 1, 1) := by decide +kernel
theorem d_S_topple_16 : decode Y_S_topple.2.1 16 = .ok (.iaload, 1) := by decide +kernel
theorem d_S_topple_17 : decode Y_S_topple.2.1 17 = .ok (.aload_n 0, 1) := by decide +kernel
theorem d_S_topple_18 : decode Y_S_topple.2.1 18 = .ok (.getfield 27, 3) := by decide +kernel
theorem d_S_topple_21 : decode Y_S_topple.2.1 21 = .ok (.getfield 146, 3) := by decide +kernel
theorem d_S_topple_24 : decode Y_S_topple.2.1 24 = .ok (.iload_n 1, 1) := by decide +kernel
theorem d_S_topple_25 : decode Y_S_topple.2.1 25 = .ok (.iaload, 1) := by decide +kernel
theorem d_S_topple_26 : decode Y_S_topple.2.1 26 = .ok (.if_icmp .ge 5, 3) := by decide +kernel
theorem d_S_topple_29 : decode Y_S_topple.2.1 29 = .ok (.iconst (-1), 1) := by decide +kernel
theorem d_S_topple_30 : decode Y_S_topple.2.1 30 = .ok (.ireturn, 1) := by decide +kernel
theorem d_S_topple_31 : decode Y_S_topple.2.1 31 = .ok (.aload_n 0, 1) := by decide +kernel
theorem d_S_topple_32 : decode Y_S_topple.2.1 32 = .ok (.getfield 60, 3) := by decide +kernel
theorem d_S_topple_35 : decode Y_S_topple.2.1 35 = .ok (.aload_n 0, 1) := by decide +kernel
theorem d_S_topple_36 : decode Y_S_topple.2.1 36 = .ok (.getfield 34, 3) := by decide +kernel
theorem d_S_topple_39 : decode Y_S_topple.2.1 39 = .ok (.invokevirtual 199, 3) := by decide +kernel
theorem d_S_topple_42 : decode Y_S_topple.2.1 42 = .ok (.aload_n 0, 1) := by decide +kernel
theorem d_S_topple_43 : decode Y_S_topple.2.1 43 = .ok (.getfield 60, 3) := by decide +kernel
theorem d_S_topple_46 : decode Y_S_topple.2.1 46 = .ok (.aload_n 0, 1) := by decide +kernel
theorem d_S_topple_47 : decode Y_S_topple.2.1 47 = .ok (.getfield 27, 3) := by decide +kernel
theorem d_S_topple_50 : decode Y_S_topple.2.1 50 = .ok (.iload_n 1, 1) := by decide +kernel
theorem d_S_topple_51 : decode Y_S_topple.2.1 51 = .ok (.iconst 1, 1) := by decide +kernel
theorem d_S_topple_52 : decode Y_S_topple.2.1 52 = .ok (.invokevirtual 217, 3) := by decide +kernel
theorem d_S_topple_55 : decode Y_S_topple.2.1 55 = .ok (.aload_n 0, 1) := by decide +kernel
theorem d_S_topple_56 : decode Y_S_topple.2.1 56 = .ok (.aload_n 0, 1) := by decide +kernel
theorem d_S_topple_57 : decode Y_S_topple.2.1 57 = .ok (.getfield 34, 3) := by decide +kernel
theorem d_S_topple_60 : decode Y_S_topple.2.1 60 = .ok (.invokevirtual 205, 3) := by decide +kernel
theorem d_S_topple_63 : decode Y_S_topple.2.1 63 = .ok (.aload_n 0, 1) := by decide +kernel
theorem d_S_topple_64 : decode Y_S_topple.2.1 64 = .ok (.getfield 46, 3) := by decide +kernel
theorem d_S_topple_67 : decode Y_S_topple.2.1 67 = .ok (.aload_n 0, 1) := by decide +kernel
theorem d_S_topple_68 : decode Y_S_topple.2.1 68 = .ok (.getfield 34, 3) := by decide +kernel
theorem d_S_topple_71 : decode Y_S_topple.2.1 71 = .ok (.invokevirtual 167, 3) := by decide +kernel
theorem d_S_topple_74 : decode Y_S_topple.2.1 74 = .ok (.aload_n 0, 1) := by decide +kernel
theorem d_S_topple_75 : decode Y_S_topple.2.1 75 = .ok (.getfield 34, 3) := by decide +kernel
theorem d_S_topple_78 : decode Y_S_topple.2.1 78 = .ok (.iload_n 1, 1) := by decide +kernel
theorem d_S_topple_79 : decode Y_S_topple.2.1 79 = .ok (.iaload, 1) := by decide +kernel
theorem d_S_topple_80 : decode Y_S_topple.2.1 80 = .ok (.ireturn, 1) := by decide +kernel
theorem e_S_topple {l : Launch} {G : GT} {d : Nat} {P : Int → MM → Prop} {m : MM} (x1 : Int)  (H : wfM m → inR x1 → ∃ b1 : Nat, m 0 5 = b1 ∧ isB b1 ∧ (∃ (e5 : Nat) (P6 : Int → MM → Prop), e5 < d ∧ CI l G Y_Board_has e5 [.inr (.inr b1), .inl x1] m P6 ∧ (∀ z11 m12, P6 z11 m12 → inR z11 → wfM m12 → ((z11 = 0 → (P (-1) m12)) ∧ (¬ (z11 = 0) → ((0 ≤ x1 ∧ x1 < (8 : Int)) ∧ (∃ b23 : Nat, m12 0 5 = b23 ∧ isB b23 ∧ ((0 ≤ x1 ∧ x1 < (5 : Int)) ∧ (((m12 25 x1) ≥ (m12 (b23 + 4) x1) → (∃ (e34 : Nat) (P35 : MM → Prop), e34 < d ∧ CV l G Y_Sand_take e34 [.inr (.inr 32), .inr (.inr 25)] m12 P35 ∧ (∀ m41, P35 m41 → wfM m41 → (∃ b45 : Nat, m41 0 5 = b45 ∧ isB b45 ∧ (∃ (e49 : Nat) (P50 : MM → Prop), e49 < d ∧ CV l G Y_Sand_tip e49 [.inr (.inr 32), .inr (.inr b45), .inl x1, .inl 1] m41 P50 ∧ (∀ m56, P50 m56 → wfM m56 → (∃ (e60 : Nat) (P61 : MM → Prop), e60 < d ∧ CV l G Y_S_layBack e60 [.inr (.inr 0), .inr (.inr 25)] m56 P61 ∧ (∀ m67, P61 m67 → wfM m67 → (∃ (e71 : Nat) (P72 : MM → Prop), e71 < d ∧ CV l G Y_Acts_keep e71 [.inr (.inr 28), .inr (.inr 25)] m67 P72 ∧ (∀ m78, P72 m78 → wfM m78 → ((0 ≤ x1 ∧ x1 < (8 : Int)) ∧ (P (m78 25 x1) m78)))))))))))) ∧ (¬ ((m12 25 x1) ≥ (m12 (b23 + 4) x1)) → (P (-1) m12))))))))))) : CI l G Y_S_topple d [.inr (.inr 0), .inl x1] m P := by
  refine CI.of [(0, .inr (.inr 0)), (1, .inl x1)] k_S_topple.1 (Nat.le_of_ble_eq_true rfl) rfl (Wp.wf (fun hw _ hl hs => ?_))
  have H0 := H hw (hl _ (List.mem_of_getElem? (i := 1) rfl))
  refine Wp.aload_n 0 0 d_S_topple_0 rfl rfl ?_
  obtain ⟨b1, hb2, hB3, H4⟩ := H0
  refine Wp.getR b1 d_S_topple_1 fl_S_27 rfl (Or.inl rfl) rfl hb2 ?_
  refine Wp.iload_n 1 1 d_S_topple_4 rfl rfl ?_
  obtain ⟨e5, P6, hd7, ho8, H9⟩ := H4
  refine Wq.VI (st := []) [.inl x1] d_S_topple_5 k_Board_has ml_S_142 rfl (isB_lay hB3) rfl (fun h => by cases h) (Nat.le_of_ble_eq_true rfl) hd7 ho8 (fun z11 m12 hp13 hz14 hw15 => ?_)
  have H10 := H9 z11 m12 hp13 hz14 hw15
  obtain ⟨H17, H18⟩ := H10
  refine Wp.if_eq 29 d_S_topple_8 (by decide) (fun c16 => ?_) (fun c16 => ?_)
  · have H19 := H17 c16
    refine Wp.iconst d_S_topple_29 (by decide) ?_
    exact Wq.iret d_S_topple_30 rfl H19
  · have H20 := H18 c16
    refine Wp.aload_n 0 0 d_S_topple_11 rfl rfl ?_
    refine Wp.getP 25 d_S_topple_12 fl_S_34 rfl rfl rfl ?_
    refine Wp.iload_n 1 1 d_S_topple_15 rfl rfl ?_
    obtain ⟨s21, H22⟩ := H20
    refine Wp.iald d_S_topple_16 rfl (Or.inl rfl) s21.1 s21.2 ?_
    refine Wp.aload_n 0 0 d_S_topple_17 rfl rfl ?_
    obtain ⟨b23, hb24, hB25, H26⟩ := H22
    refine Wp.getR b23 d_S_topple_18 fl_S_27 rfl (Or.inl rfl) rfl hb24 ?_
    refine Wp.getP (b23 + 4) d_S_topple_21 fl_S_146 (isB_lay hB25) rfl (isB_p8 hB25) ?_
    refine Wp.iload_n 1 1 d_S_topple_24 rfl rfl ?_
    obtain ⟨s27, H28⟩ := H26
    refine Wp.iald d_S_topple_25 (isB_l8 hB25) (Or.inl rfl) s27.1 s27.2 ?_
    obtain ⟨H30, H31⟩ := H28
    refine Wp.icmp_ge 31 d_S_topple_26 (by decide) (fun c29 => ?_) (fun c29 => ?_)
    · have H32 := H30 c29
      refine Wp.aload_n 0 0 d_S_topple_31 rfl rfl ?_
      refine Wp.getP 32 d_S_topple_32 fl_S_60 rfl rfl rfl ?_
      refine Wp.aload_n 0 0 d_S_topple_35 rfl rfl ?_
      refine Wp.getP 25 d_S_topple_36 fl_S_34 rfl rfl rfl ?_
      obtain ⟨e34, P35, hd36, ho37, H38⟩ := H32
      refine Wq.VV (st := []) [.inr (.inr 25)] d_S_topple_39 k_Sand_take ml_S_199 rfl rfl rfl (fun h => by cases h) (Nat.le_of_ble_eq_true rfl) hd36 ho37 (fun m41 hp42 hw44 => ?_)
      have H39 := H38 m41 hp42 hw44
      refine Wp.aload_n 0 0 d_S_topple_42 rfl rfl ?_
      refine Wp.getP 32 d_S_topple_43 fl_S_60 rfl rfl rfl ?_
      refine Wp.aload_n 0 0 d_S_topple_46 rfl rfl ?_
      obtain ⟨b45, hb46, hB47, H48⟩ := H39
      refine Wp.getR b45 d_S_topple_47 fl_S_27 rfl (Or.inl rfl) rfl hb46 ?_
      refine Wp.iload_n 1 1 d_S_topple_50 rfl rfl ?_
      refine Wp.iconst d_S_topple_51 (by decide) ?_
      obtain ⟨e49, P50, hd51, ho52, H53⟩ := H48
      refine Wq.VV (st := []) [.inr (.inr b45), .inl x1, .inl 1] d_S_topple_52 k_Sand_tip ml_S_217 rfl rfl rfl (fun h => by cases h) (Nat.le_of_ble_eq_true rfl) hd51 ho52 (fun m56 hp57 hw59 => ?_)
      have H54 := H53 m56 hp57 hw59
      refine Wp.aload_n 0 0 d_S_topple_55 rfl rfl ?_
      refine Wp.aload_n 0 0 d_S_topple_56 rfl rfl ?_
      refine Wp.getP 25 d_S_topple_57 fl_S_34 rfl rfl rfl ?_
      obtain ⟨e60, P61, hd62, ho63, H64⟩ := H54
      refine Wq.VV (st := []) [.inr (.inr 25)] d_S_topple_60 k_S_layBack ml_S_205 rfl rfl rfl (fun h => by cases h) (Nat.le_of_ble_eq_true rfl) hd62 ho63 (fun m67 hp68 hw70 => ?_)
      have H65 := H64 m67 hp68 hw70
      refine Wp.aload_n 0 0 d_S_topple_63 rfl rfl ?_
      refine Wp.getP 28 d_S_topple_64 fl_S_46 rfl rfl rfl ?_
      refine Wp.aload_n 0 0 d_S_topple_67 rfl rfl ?_
      refine Wp.getP 25 d_S_topple_68 fl_S_34 rfl rfl rfl ?_
      obtain ⟨e71, P72, hd73, ho74, H75⟩ := H65
      refine Wq.VV (st := []) [.inr (.inr 25)] d_S_topple_71 k_Acts_keep ml_S_167 rfl rfl rfl (fun h => by cases h) (Nat.le_of_ble_eq_true rfl) hd73 ho74 (fun m78 hp79 hw81 => ?_)
      have H76 := H75 m78 hp79 hw81
      refine Wp.aload_n 0 0 d_S_topple_74 rfl rfl ?_
      refine Wp.getP 25 d_S_topple_75 fl_S_34 rfl rfl rfl ?_
      refine Wp.iload_n 1 1 d_S_topple_78 rfl rfl ?_
      obtain ⟨s82, H83⟩ := H76
      refine Wp.iald d_S_topple_79 rfl (Or.inl rfl) s82.1 s82.2 ?_
      exact Wq.iret d_S_topple_80 rfl H83
    · have H33 := H31 c29
      refine Wp.iconst d_S_topple_29 (by decide) ?_
      exact Wq.iret d_S_topple_30 rfl H33
theorem d_S_settle_0 : decode Y_S_settle.2.1 0 = .ok (.aload_n 0, 1) := by decide +kernel
theorem d_S_settle_1 : decode Y_S_settle.2.1 1 = .ok (.invokevirtual 221, 3) := by decide +kernel
theorem d_S_settle_4 : decode Y_S_settle.2.1 4 = .ok (.ifCond .ne 5, 3) := by decide +kernel
theorem d_S_settle_7 : decode Y_S_settle.2.1 7 = .ok (.iconst (-1), 1) := by decide +kernel
theorem d_S_settle_8 : decode Y_S_settle.2.1 8 = .ok (.ireturn, 1) := by decide +kernel
theorem d_S_settle_9 : decode Y_S_settle.2.1 9 = .ok (.aload_n 0, 1) := by decide +kernel
theorem d_S_settle_10 : decode Y_S_settle.2.1 10 = .ok (.aload_n 0, 1) := by decide +kernel
theorem d_S_settle_11 : decode Y_S_settle.2.1 11 = .ok (.getfield 34, 3) := by decide +kernel
theorem d_S_settle_14 : decode Y_S_settle.2.1 14 = .ok (.invokevirtual 195, 3) := by decide +kernel
theorem d_S_settle_17 : decode Y_S_settle.2.1 17 = .ok (.istore_n 1, 1) := by decide +kernel
theorem d_S_settle_18 : decode Y_S_settle.2.1 18 = .ok (.aload_n 0, 1) := by decide +kernel
theorem d_S_settle_19 : decode Y_S_settle.2.1 19 = .ok (.getfield 46, 3) := by decide +kernel
theorem d_S_settle_22 : decode Y_S_settle.2.1 22 = .ok (.aload_n 0, 1) := by decide +kernel
theorem d_S_settle_23 : decode Y_S_settle.2.1 23 = .ok (.getfield 34, 3) := by decide +kernel
theorem d_S_settle_26 : decode Y_S_settle.2.1 26 = .ok (.invokevirtual 167, 3) := by decide +kernel
theorem d_S_settle_29 : decode Y_S_settle.2.1 29 = .ok (.iload_n 1, 1) := by decide +kernel
theorem d_S_settle_30 : decode Y_S_settle.2.1 30 = .ok (.ireturn, 1) := by decide +kernel
theorem e_S_settle {l : Launch} {G : GT} {d : Nat} {P : Int → MM → Prop} {m : MM}   (H : wfM m → ∃ (e1 : Nat) (P2 : Int → MM → Prop), e1 < d ∧ CI l G Y_S_over e1 [.inr (.inr 0)] m P2 ∧ (∀ z7 m8, P2 z7 m8 → inR z7 → wfM m8 → ((z7 ≠ 0 → (∃ (e17 : Nat) (P18 : Int → MM → Prop), e17 < d ∧ CI l G Y_S_calmDown e17 [.inr (.inr 0), .inr (.inr 25)] m8 P18 ∧ (∀ z23 m24, P18 z23 m24 → inR z23 → wfM m24 → (∃ (e28 : Nat) (P29 : MM → Prop), e28 < d ∧ CV l G Y_Acts_keep e28 [.inr (.inr 28), .inr (.inr 25)] m24 P29 ∧ (∀ m35, P29 m35 → wfM m35 → (P z23 m35)))))) ∧ (¬ (z7 ≠ 0) → (P (-1) m8))))) : CI l G Y_S_settle d [.inr (.inr 0)] m P := by
  refine CI.of [(0, .inr (.inr 0))] k_S_settle.1 (Nat.le_of_ble_eq_true rfl) rfl (Wp.wf (fun hw _ hl hs => ?_))
  have H0 := H hw
  refine Wp.aload_n 0 0 d_S_settle_0 rfl rfl ?_
  obtain ⟨e1, P2, hd3, ho4, H5⟩ := H0
  refine Wq.VI (st := []) [] d_S_settle_1 k_S_over ml_S_221 rfl rfl rfl (fun h => by cases h) (Nat.le_of_ble_eq_true rfl) hd3 ho4 (fun z7 m8 hp9 hz10 hw11 => ?_)
  have H6 := H5 z7 m8 hp9 hz10 hw11
  obtain ⟨H13, H14⟩ := H6
  refine Wp.if_ne 9 d_S_settle_4 (by decide) (fun c12 => ?_) (fun c12 => ?_)
  · have H15 := H13 c12
    refine Wp.aload_n 0 0 d_S_settle_9 rfl rfl ?_
    refine Wp.aload_n 0 0 d_S_settle_10 rfl rfl ?_
    refine Wp.getP 25 d_S_settle_11 fl_S_34 rfl rfl rfl ?_
    obtain ⟨e17, P18, hd19, ho20, H21⟩ := H15
    refine Wq.VI (st := []) [.inr (.inr 25)] d_S_settle_14 k_S_calmDown ml_S_195 rfl rfl rfl (fun h => by cases h) (Nat.le_of_ble_eq_true rfl) hd19 ho20 (fun z23 m24 hp25 hz26 hw27 => ?_)
    have H22 := H21 z23 m24 hp25 hz26 hw27
    refine Wp.istore_n 1 [(0, .inr (.inr 0)), (1, .inl z23)] d_S_settle_17 rfl (by decide) rfl ?_
    refine Wp.aload_n 0 0 d_S_settle_18 rfl rfl ?_
    refine Wp.getP 28 d_S_settle_19 fl_S_46 rfl rfl rfl ?_
    refine Wp.aload_n 0 0 d_S_settle_22 rfl rfl ?_
    refine Wp.getP 25 d_S_settle_23 fl_S_34 rfl rfl rfl ?_
    obtain ⟨e28, P29, hd30, ho31, H32⟩ := H22
    refine Wq.VV (st := []) [.inr (.inr 25)] d_S_settle_26 k_Acts_keep ml_S_167 rfl rfl rfl (fun h => by cases h) (Nat.le_of_ble_eq_true rfl) hd30 ho31 (fun m35 hp36 hw38 => ?_)
    have H33 := H32 m35 hp36 hw38
    refine Wp.iload_n 1 1 d_S_settle_29 rfl rfl ?_
    exact Wq.iret d_S_settle_30 rfl H33
  · have H16 := H14 c12
    refine Wp.iconst d_S_settle_7 (by decide) ?_
    exact Wq.iret d_S_settle_8 rfl H16
theorem d_S_over_0 : decode Y_S_over.2.1 0 = .ok (.aload_n 0, 1) := by decide +kernel
theorem d_S_over_1 : decode Y_S_over.2.1 1 = .ok (.getfield 27, 3) := by decide +kernel
theorem d_S_over_4 : decode Y_S_over.2.1 4 = .ok (.aload_n 0, 1) := by decide +kernel
theorem d_S_over_5 : decode Y_S_over.2.1 5 = .ok (.getfield 34, 3) := by decide +kernel
theorem d_S_over_8 : decode Y_S_over.2.1 8 = .ok (.invokevirtual 238, 3) := by decide +kernel
theorem d_S_over_11 : decode Y_S_over.2.1 11 = .ok (.ireturn, 1) := by decide +kernel
theorem e_S_over {l : Launch} {G : GT} {d : Nat} {P : Int → MM → Prop} {m : MM}   (H : wfM m → ∃ b1 : Nat, m 0 5 = b1 ∧ isB b1 ∧ (∃ (e5 : Nat) (P6 : Int → MM → Prop), e5 < d ∧ CI l G Y_Board_overfull e5 [.inr (.inr b1), .inr (.inr 25)] m P6 ∧ (∀ z11 m12, P6 z11 m12 → inR z11 → wfM m12 → (P z11 m12)))) : CI l G Y_S_over d [.inr (.inr 0)] m P := by
  refine CI.of [(0, .inr (.inr 0))] k_S_over.1 (Nat.le_of_ble_eq_true rfl) rfl (Wp.wf (fun hw _ hl hs => ?_))
  have H0 := H hw
  refine Wp.aload_n 0 0 d_S_over_0 rfl rfl ?_
  obtain ⟨b1, hb2, hB3, H4⟩ := H0
  refine Wp.getR b1 d_S_over_1 fl_S_27 rfl (Or.inl rfl) rfl hb2 ?_
  refine Wp.aload_n 0 0 d_S_over_4 rfl rfl ?_
  refine Wp.getP 25 d_S_over_5 fl_S_34 rfl rfl rfl ?_
  obtain ⟨e5, P6, hd7, ho8, H9⟩ := H4
  refine Wq.VI (st := []) [.inr (.inr 25)] d_S_over_8 k_Board_overfull ml_S_238 rfl (isB_lay hB3) rfl (fun h => by cases h) (Nat.le_of_ble_eq_true rfl) hd7 ho8 (fun z11 m12 hp13 hz14 hw15 => ?_)
  have H10 := H9 z11 m12 hp13 hz14 hw15
  exact Wq.iret d_S_over_11 rfl H10
theorem d_S_sweep_0 : decode Y_S_sweep.2.1 0 = .ok (.aload_n 0, 1) := by decide +kernel
theorem d_S_sweep_1 : decode Y_S_sweep.2.1 1 = .ok (.getfield 27, 3) := by decide +kernel
theorem d_S_sweep_4 : decode Y_S_sweep.2.1 4 = .ok (.iload_n 1, 1) := by decide +kernel
theorem d_S_sweep_5 : decode Y_S_sweep.2.1 5 = .ok (.invokevirtual 142, 3) := by decide +kernel
theorem d_S_sweep_8 : decode Y_S_sweep.2.1 8 = .ok (.ifCond .eq 12, 3) := by decide +kernel
theorem d_S_sweep_11 : decode Y_S_sweep.2.1 11 = .ok (.aload_n 0, 1) := by decide +kernel
theorem d_S_sweep_12 : decode Y_S_sweep.2.1 12 = .ok (.getfield 34, 3) := by decide +kernel
theorem d_S_sweep_15 : decode Y_S_sweep.2.1 15 = .ok (.iload_n 1, 1) := by decide +kernel
theorem d_S_sweep_16 : decode Y_S_sweep.2.1 16 = .ok (.iaload, 1) := by decide +kernel
theorem d_S_sweep_17 : decode Y_S_sweep.2.1 17 = .ok (.ifCond .gt 5, 3) := by decide +kernel
theorem d_S_sweep_20 : decode Y_S_sweep.2.1 20 = .ok (.iconst (-1), 1) := by decide +kernel
theorem d_S_sweep_21 : decode Y_S_sweep.2.1 21 = .ok (.ireturn, 1) := by decide +kernel
theorem d_S_sweep_22 : decode Y_S_sweep.2.1 22 = .ok (.aload_n 0, 1) := by decide +kernel
theorem d_S_sweep_23 : decode Y_S_sweep.2.1 23 = .ok (.getfield 34, 3) := by decide +kernel
theorem d_S_sweep_26 : decode Y_S_sweep.2.1 26 = .ok (.iload_n 1, 1) := by decide +kernel
theorem d_S_sweep_27 : decode Y_S_sweep.2.1 27 = .ok (.iaload, 1) := by decide +kernel
theorem d_S_sweep_28 : decode Y_S_sweep.2.1 28 = .ok (.istore_n 2, 1) := by decide +kernel
theorem d_S_sweep_29 : decode Y_S_sweep.2.1 29 = .ok (.aload_n 0, 1) := by decide +kernel
theorem d_S_sweep_30 : decode Y_S_sweep.2.1 30 = .ok (.getfield 34, 3) := by decide +kernel
theorem d_S_sweep_33 : decode Y_S_sweep.2.1 33 = .ok (.iload_n 1, 1) := by decide +kernel
theorem d_S_sweep_34 : decode Y_S_sweep.2.1 34 = .ok (.iconst 0, 1) := by decide +kernel
theorem d_S_sweep_35 : decode Y_S_sweep.2.1 35 = .ok (.iastore, 1) := by decide +kernel
theorem d_S_sweep_36 : decode Y_S_sweep.2.1 36 = .ok (.aload_n 0, 1) := by decide +kernel
theorem d_S_sweep_37 : decode Y_S_sweep.2.1 37 = .ok (.getfield 46, 3) := by decide +kernel
theorem d_S_sweep_40 : decode Y_S_sweep.2.1 40 = .ok (.aload_n 0, 1) := by decide +kernel
theorem d_S_sweep_41 : decode Y_S_sweep.2.1 41 = .ok (.getfield 34, 3) := by decide +kernel
theorem d_S_sweep_44 : decode Y_S_sweep.2.1 44 = .ok (.invokevirtual 167, 3) := by decide +kernel
theorem d_S_sweep_47 : decode Y_S_sweep.2.1 47 = .ok (.iload_n 2, 1) := by decide +kernel
theorem d_S_sweep_48 : decode Y_S_sweep.2.1 48 = .ok (.ireturn, 1) := by decide +kernel
theorem e_S_sweep {l : Launch} {G : GT} {d : Nat} {P : Int → MM → Prop} {m : MM} (x1 : Int)  (H : wfM m → inR x1 → ∃ b1 : Nat, m 0 5 = b1 ∧ isB b1 ∧ (∃ (e5 : Nat) (P6 : Int → MM → Prop), e5 < d ∧ CI l G Y_Board_has e5 [.inr (.inr b1), .inl x1] m P6 ∧ (∀ z11 m12, P6 z11 m12 → inR z11 → wfM m12 → ((z11 = 0 → (P (-1) m12)) ∧ (¬ (z11 = 0) → ((0 ≤ x1 ∧ x1 < (8 : Int)) ∧ (((m12 25 x1) > 0 → ((0 ≤ x1 ∧ x1 < (8 : Int)) ∧ ((0 ≤ x1 ∧ x1 < (8 : Int)) ∧ (∀ m30, m30 = up m12 25 x1 0 → (∃ (e35 : Nat) (P36 : MM → Prop), e35 < d ∧ CV l G Y_Acts_keep e35 [.inr (.inr 28), .inr (.inr 25)] m30 P36 ∧ (∀ m42, P36 m42 → wfM m42 → (P (m12 25 x1) m42))))))) ∧ (¬ ((m12 25 x1) > 0) → (P (-1) m12))))))))) : CI l G Y_S_sweep d [.inr (.inr 0), .inl x1] m P := by
  refine CI.of [(0, .inr (.inr 0)), (1, .inl x1)] k_S_sweep.1 (Nat.le_of_ble_eq_true rfl) rfl (Wp.wf (fun hw _ hl hs => ?_))
  have H0 := H hw (hl _ (List.mem_of_getElem? (i := 1) rfl))
  refine Wp.aload_n 0 0 d_S_sweep_0 rfl rfl ?_
  obtain ⟨b1, hb2, hB3, H4⟩ := H0
  refine Wp.getR b1 d_S_sweep_1 fl_S_27 rfl (Or.inl rfl) rfl hb2 ?_
  refine Wp.iload_n 1 1 d_S_sweep_4 rfl rfl ?_
  obtain ⟨e5, P6, hd7, ho8, H9⟩ := H4
  refine Wq.VI (st := []) [.inl x1] d_S_sweep_5 k_Board_has ml_S_142 rfl (isB_lay hB3) rfl (fun h => by cases h) (Nat.le_of_ble_eq_true rfl) hd7 ho8 (fun z11 m12 hp13 hz14 hw15 => ?_)
  have H10 := H9 z11 m12 hp13 hz14 hw15
  obtain ⟨H17, H18⟩ := H10
  refine Wp.if_eq 20 d_S_sweep_8 (by decide) (fun c16 => ?_) (fun c16 => ?_)
  · have H19 := H17 c16
    refine Wp.iconst d_S_sweep_20 (by decide) ?_
    exact Wq.iret d_S_sweep_21 rfl H19
  · have H20 := H18 c16
    refine Wp.aload_n 0 0 d_S_sweep_11 rfl rfl ?_
    refine Wp.getP 25 d_S_sweep_12 fl_S_34 rfl rfl rfl ?_
    refine Wp.iload_n 1 1 d_S_sweep_15 rfl rfl ?_
    obtain ⟨s21, H22⟩ := H20
    refine Wp.iald d_S_sweep_16 rfl (Or.inl rfl) s21.1 s21.2 ?_
    obtain ⟨H24, H25⟩ := H22
    refine Wp.if_gt 22 d_S_sweep_17 (by decide) (fun c23 => ?_) (fun c23 => ?_)
    · have H26 := H24 c23
      refine Wp.aload_n 0 0 d_S_sweep_22 rfl rfl ?_
      refine Wp.getP 25 d_S_sweep_23 fl_S_34 rfl rfl rfl ?_
      refine Wp.iload_n 1 1 d_S_sweep_26 rfl rfl ?_
      obtain ⟨s28, H29⟩ := H26
      refine Wp.iald d_S_sweep_27 rfl (Or.inl rfl) s28.1 s28.2 ?_
      refine Wp.istore_n 2 [(0, .inr (.inr 0)), (1, .inl x1), (2, .inl (m12 25 x1))] d_S_sweep_28 rfl (by decide) rfl ?_
      refine Wp.aload_n 0 0 d_S_sweep_29 rfl rfl ?_
      refine Wp.getP 25 d_S_sweep_30 fl_S_34 rfl rfl rfl ?_
      refine Wp.iload_n 1 1 d_S_sweep_33 rfl rfl ?_
      refine Wp.iconst d_S_sweep_34 (by decide) ?_
      obtain ⟨s46, H47⟩ := H29
      refine Wq.iast d_S_sweep_35 rfl s46.1 s46.2 (fun m30 hm31 => ?_)
      have H32 := H47 m30 hm31
      refine Wp.aload_n 0 0 d_S_sweep_36 rfl rfl ?_
      refine Wp.getP 28 d_S_sweep_37 fl_S_46 rfl rfl rfl ?_
      refine Wp.aload_n 0 0 d_S_sweep_40 rfl rfl ?_
      refine Wp.getP 25 d_S_sweep_41 fl_S_34 rfl rfl rfl ?_
      obtain ⟨e35, P36, hd37, ho38, H39⟩ := H32
      refine Wq.VV (st := []) [.inr (.inr 25)] d_S_sweep_44 k_Acts_keep ml_S_167 rfl rfl rfl (fun h => by cases h) (Nat.le_of_ble_eq_true rfl) hd37 ho38 (fun m42 hp43 hw45 => ?_)
      have H40 := H39 m42 hp43 hw45
      refine Wp.iload_n 2 2 d_S_sweep_47 rfl rfl ?_
      exact Wq.iret d_S_sweep_48 rfl H40
    · have H27 := H25 c23
      refine Wp.iconst d_S_sweep_20 (by decide) ?_
      exact Wq.iret d_S_sweep_21 rfl H27
theorem d_S_undo_0 : decode Y_S_undo.2.1 0 = .ok (.aload_n 0, 1) := by decide +kernel
theorem d_S_undo_1 : decode Y_S_undo.2.1 1 = .ok (.getfield 46, 3) := by decide +kernel
theorem d_S_undo_4 : decode Y_S_undo.2.1 4 = .ok (.aload_n 0, 1) := by decide +kernel
theorem d_S_undo_5 : decode Y_S_undo.2.1 5 = .ok (.getfield 34, 3) := by decide +kernel
theorem d_S_undo_8 : decode Y_S_undo.2.1 8 = .ok (.invokevirtual 225, 3) := by decide +kernel
theorem d_S_undo_11 : decode Y_S_undo.2.1 11 = .ok (.ireturn, 1) := by decide +kernel
theorem e_S_undo {l : Launch} {G : GT} {d : Nat} {P : Int → MM → Prop} {m : MM}   (H : wfM m → ∃ (e1 : Nat) (P2 : Int → MM → Prop), e1 < d ∧ CI l G Y_Acts_goBack e1 [.inr (.inr 28), .inr (.inr 25)] m P2 ∧ (∀ z7 m8, P2 z7 m8 → inR z7 → wfM m8 → ((z7 = 0 ∨ z7 = 1) ∧ P z7 m8))) : CI l G Y_S_undo d [.inr (.inr 0)] m P := by
  refine CI.of [(0, .inr (.inr 0))] k_S_undo.1 (Nat.le_of_ble_eq_true rfl) rfl (Wp.wf (fun hw _ hl hs => ?_))
  have H0 := H hw
  refine Wp.aload_n 0 0 d_S_undo_0 rfl rfl ?_
  refine Wp.getP 28 d_S_undo_1 fl_S_46 rfl rfl rfl ?_
  refine Wp.aload_n 0 0 d_S_undo_4 rfl rfl ?_
  refine Wp.getP 25 d_S_undo_5 fl_S_34 rfl rfl rfl ?_
  obtain ⟨e1, P2, hd3, ho4, H5⟩ := H0
  refine Wq.VI (st := []) [.inr (.inr 25)] d_S_undo_8 k_Acts_goBack ml_S_225 rfl rfl rfl (fun h => by cases h) (Nat.le_of_ble_eq_true rfl) hd3 ho4 (fun z7 m8 hp9 hz10 hw11 => ?_)
  have H6 := H5 z7 m8 hp9 hz10 hw11
  exact Wq.zret d_S_undo_11 rfl H6.1 H6.2
theorem d_S_redo_0 : decode Y_S_redo.2.1 0 = .ok (.aload_n 0, 1) := by decide +kernel
theorem d_S_redo_1 : decode Y_S_redo.2.1 1 = .ok (.getfield 46, 3) := by decide +kernel
theorem d_S_redo_4 : decode Y_S_redo.2.1 4 = .ok (.aload_n 0, 1) := by decide +kernel
theorem d_S_redo_5 : decode Y_S_redo.2.1 5 = .ok (.getfield 34, 3) := by decide +kernel
theorem d_S_redo_8 : decode Y_S_redo.2.1 8 = .ok (.invokevirtual 229, 3) := by decide +kernel
theorem d_S_redo_11 : decode Y_S_redo.2.1 11 = .ok (.ireturn, 1) := by decide +kernel
theorem e_S_redo {l : Launch} {G : GT} {d : Nat} {P : Int → MM → Prop} {m : MM}   (H : wfM m → ∃ (e1 : Nat) (P2 : Int → MM → Prop), e1 < d ∧ CI l G Y_Acts_goOn e1 [.inr (.inr 28), .inr (.inr 25)] m P2 ∧ (∀ z7 m8, P2 z7 m8 → inR z7 → wfM m8 → ((z7 = 0 ∨ z7 = 1) ∧ P z7 m8))) : CI l G Y_S_redo d [.inr (.inr 0)] m P := by
  refine CI.of [(0, .inr (.inr 0))] k_S_redo.1 (Nat.le_of_ble_eq_true rfl) rfl (Wp.wf (fun hw _ hl hs => ?_))
  have H0 := H hw
  refine Wp.aload_n 0 0 d_S_redo_0 rfl rfl ?_
  refine Wp.getP 28 d_S_redo_1 fl_S_46 rfl rfl rfl ?_
  refine Wp.aload_n 0 0 d_S_redo_4 rfl rfl ?_
  refine Wp.getP 25 d_S_redo_5 fl_S_34 rfl rfl rfl ?_
  obtain ⟨e1, P2, hd3, ho4, H5⟩ := H0
  refine Wq.VI (st := []) [.inr (.inr 25)] d_S_redo_8 k_Acts_goOn ml_S_229 rfl rfl rfl (fun h => by cases h) (Nat.le_of_ble_eq_true rfl) hd3 ho4 (fun z7 m8 hp9 hz10 hw11 => ?_)
  have H6 := H5 z7 m8 hp9 hz10 hw11
  exact Wq.zret d_S_redo_11 rfl H6.1 H6.2
theorem d_S_will_0 : decode Y_S_will.2.1 0 = .ok (.aload_n 0, 1) := by decide +kernel
theorem d_S_will_1 : decode Y_S_will.2.1 1 = .ok (.getfield 27, 3) := by decide +kernel
theorem d_S_will_4 : decode Y_S_will.2.1 4 = .ok (.iload_n 1, 1) := by decide +kernel
theorem d_S_will_5 : decode Y_S_will.2.1 5 = .ok (.invokevirtual 142, 3) := by decide +kernel
theorem d_S_will_8 : decode Y_S_will.2.1 8 = .ok (.ifCond .eq 22, 3) := by decide +kernel
theorem d_S_will_11 : decode Y_S_will.2.1 11 = .ok (.iload_n 2, 1) := by decide +kernel
theorem d_S_will_12 : decode Y_S_will.2.1 12 = .ok (.ifCond .lt 18, 3) := by decide +kernel
theorem d_S_will_15 : decode Y_S_will.2.1 15 = .ok (.iload_n 2, 1) := by decide +kernel
theorem d_S_will_16 : decode Y_S_will.2.1 16 = .ok (.bipush 30, 2) := by decide +kernel
theorem d_S_will_18 : decode Y_S_will.2.1 18 = .ok (.if_icmp .gt 12, 3) := by decide +kernel
theorem d_S_will_21 : decode Y_S_will.2.1 21 = .ok (.iload_n 3, 1) := by decide +kernel
theorem d_S_will_22 : decode Y_S_will.2.1 22 = .ok (.ifCond .lt 8, 3) := by decide +kernel
theorem d_S_will_25 : decode Y_S_will.2.1 25 = .ok (.iload_n 3, 1) := by decide +kernel
theorem d_S_will_26 : decode Y_S_will.2.1 26 = .ok (.iconst 1, 1) := by decide +kernel
theorem d_S_will_27 : decode Y_S_will.2.1 27 = .ok (.if_icmp .le 5, 3) := by decide +kernel
theorem d_S_will_30 : decode Y_S_will.2.1 30 = .ok (.iconst (-1), 1) := by decide +kernel
theorem d_S_will_31 : decode Y_S_will.2.1 31 = .ok (.ireturn, 1) := by decide +kernel
theorem d_S_will_32 : decode Y_S_will.2.1 32 = .ok (.aload_n 0, 1) := by decide +kernel
theorem d_S_will_33 : decode Y_S_will.2.1 33 = .ok (.getfield 34, 3) := by decide +kernel
theorem d_S_will_36 : decode Y_S_will.2.1 36 = .ok (.iconst 0, 1) := by decide +kernel
theorem d_S_will_37 : decode Y_S_will.2.1 37 = .ok (.aload_n 0, 1) := by decide +kernel
theorem d_S_will_38 : decode Y_S_will.2.1 38 = .ok (.getfield 37, 3) := by decide +kernel
theorem d_S_will_41 : decode Y_S_will.2.1 41 = .ok (.iconst 0, 1) := by decide +kernel
theorem d_S_will_42 : decode Y_S_will.2.1 42 = .ok (.bipush 8, 2) := by decide +kernel
theorem d_S_will_44 : decode Y_S_will.2.1 44 = .ok (.invokestatic 232, 3) := by decide +kernel
theorem d_S_will_47 : decode Y_S_will.2.1 47 = .ok (.iconst 0, 1) := by decide +kernel
theorem d_S_will_48 : decode Y_S_will.2.1 48 = .ok (.istore 4, 2) := by decide +kernel
theorem d_S_will_50 : decode Y_S_will.2.1 50 = .ok (.iload 4, 2) := by decide +kernel
theorem d_S_will_52 : decode Y_S_will.2.1 52 = .ok (.iload_n 2, 1) := by decide +kernel
theorem d_S_will_53 : decode Y_S_will.2.1 53 = .ok (.if_icmp .ge 28, 3) := by decide +kernel
theorem d_S_will_56 : decode Y_S_will.2.1 56 = .ok (.aload_n 0, 1) := by decide +kernel
theorem d_S_will_57 : decode Y_S_will.2.1 57 = .ok (.aload_n 0, 1) := by decide +kernel
theorem d_S_will_58 : decode Y_S_will.2.1 58 = .ok (.getfield 37, 3) := by decide +kernel
theorem d_S_will_61 : decode Y_S_will.2.1 61 = .ok (.iload_n 3, 1) := by decide +kernel
theorem d_S_will_62 : decode Y_S_will.2.1 62 = .ok (.iconst 1, 1) := by decide +kernel
theorem d_S_will_63 : decode Y_S_will.2.1 63 = .ok (.if_icmp .ne 7, 3) := by decide +kernel
theorem d_S_will_66 : decode Y_S_will.2.1 66 = .ok (.iconst 1, 1) := by decide +kernel
theorem d_S_will_67 : decode Y_S_will.2.1 67 = .ok (.goto 4, 3) := by decide +kernel
theorem d_S_will_70 : decode Y_S_will.2.1 70 = .ok (.iconst 0, 1) := by decide +kernel
theorem d_S_will_71 : decode Y_S_will.2.1 71 = .ok (.invokevirtual 163, 3) := by decide +kernel
theorem d_S_will_74 : decode Y_S_will.2.1 74 = .ok (.pop, 1) := by decide +kernel
theorem d_S_will_75 : decode Y_S_will.2.1 75 = .ok (.iinc 4 1, 3) := by decide +kernel
theorem d_S_will_78 : decode Y_S_will.2.1 78 = .ok (.goto (-28), 3) := by decide +kernel
theorem d_S_will_81 : decode Y_S_will.2.1 81 = .ok (.aload_n 0, 1) := by decide +kernel
theorem d_S_will_82 : decode Y_S_will.2.1 82 = .ok (.getfield 37, 3) := by decide +kernel
theorem d_S_will_85 : decode Y_S_will.2.1 85 = .ok (.iload_n 1, 1) := by decide +kernel
theorem d_S_will_86 : decode Y_S_will.2.1 86 = .ok (.iaload, 1) := by decide +kernel
theorem d_S_will_87 : decode Y_S_will.2.1 87 = .ok (.ireturn, 1) := by decide +kernel
theorem e_S_will {l : Launch} {G : GT} {d : Nat} {P : Int → MM → Prop} {m : MM} (x1 : Int) (x2 : Int) (x3 : Int)  (hd1 : 1 ≤ d) (H : wfM m → inR x1 → inR x2 → inR x3 → ∃ b1 : Nat, m 0 5 = b1 ∧ isB b1 ∧ (∃ (e5 : Nat) (P6 : Int → MM → Prop), e5 < d ∧ CI l G Y_Board_has e5 [.inr (.inr b1), .inl x1] m P6 ∧ (∀ z11 m12, P6 z11 m12 → inR z11 → wfM m12 → ((z11 = 0 → (P (-1) m12)) ∧ (¬ (z11 = 0) → ((x2 < 0 → (P (-1) m12)) ∧ (¬ (x2 < 0) → ((x2 > 30 → (P (-1) m12)) ∧ (¬ (x2 > 30) → ((x3 < 0 → (P (-1) m12)) ∧ (¬ (x3 < 0) → ((x3 ≤ 1 → (((0 : Int) ≤ 0 ∧ (0 : Int) ≤ 0 ∧ (0 : Int) < 8 ∧ (0 : Int) + 8 ≤ (8 : Nat) ∧ (0 : Int) + 8 ≤ (8 : Nat)) ∧ (∀ m41, m41 = upC m12 25 26 0 0 8 → (Wq l G false Y_S_will d (QI P) 50 [(0, .inr (.inr 0)), (1, .inl x1), (2, .inl x2), (3, .inl x3), (4, .inl 0)] [] m41)))) ∧ (¬ (x3 ≤ 1) → (P (-1) m12)))))))))))))) : CI l G Y_S_will d [.inr (.inr 0), .inl x1, .inl x2, .inl x3] m P := by
  refine CI.of [(0, .inr (.inr 0)), (1, .inl x1), (2, .inl x2), (3, .inl x3)] k_S_will.1 (Nat.le_of_ble_eq_true rfl) rfl (Wp.wf (fun hw _ hl hs => ?_))
  have H0 := H hw (hl _ (List.mem_of_getElem? (i := 1) rfl)) (hl _ (List.mem_of_getElem? (i := 2) rfl)) (hl _ (List.mem_of_getElem? (i := 3) rfl))
  refine Wp.aload_n 0 0 d_S_will_0 rfl rfl ?_
  obtain ⟨b1, hb2, hB3, H4⟩ := H0
  refine Wp.getR b1 d_S_will_1 fl_S_27 rfl (Or.inl rfl) rfl hb2 ?_
  refine Wp.iload_n 1 1 d_S_will_4 rfl rfl ?_
  obtain ⟨e5, P6, hd7, ho8, H9⟩ := H4
  refine Wq.VI (st := []) [.inl x1] d_S_will_5 k_Board_has ml_S_142 rfl (isB_lay hB3) rfl (fun h => by cases h) (Nat.le_of_ble_eq_true rfl) hd7 ho8 (fun z11 m12 hp13 hz14 hw15 => ?_)
  have H10 := H9 z11 m12 hp13 hz14 hw15
  obtain ⟨H17, H18⟩ := H10
  refine Wp.if_eq 30 d_S_will_8 (by decide) (fun c16 => ?_) (fun c16 => ?_)
  · have H19 := H17 c16
    refine Wp.iconst d_S_will_30 (by decide) ?_
    exact Wq.iret d_S_will_31 rfl H19
  · have H20 := H18 c16
    refine Wp.iload_n 2 2 d_S_will_11 rfl rfl ?_
    obtain ⟨H22, H23⟩ := H20
    refine Wp.if_lt 30 d_S_will_12 (by decide) (fun c21 => ?_) (fun c21 => ?_)
    · have H24 := H22 c21
      refine Wp.iconst d_S_will_30 (by decide) ?_
      exact Wq.iret d_S_will_31 rfl H24
    · have H25 := H23 c21
      refine Wp.iload_n 2 2 d_S_will_15 rfl rfl ?_
      refine Wp.bipush d_S_will_16 (by decide) (by decide) ?_
      obtain ⟨H27, H28⟩ := H25
      refine Wp.icmp_gt 30 d_S_will_18 (by decide) (fun c26 => ?_) (fun c26 => ?_)
      · have H29 := H27 c26
        refine Wp.iconst d_S_will_30 (by decide) ?_
        exact Wq.iret d_S_will_31 rfl H29
      · have H30 := H28 c26
        refine Wp.iload_n 3 3 d_S_will_21 rfl rfl ?_
        obtain ⟨H32, H33⟩ := H30
        refine Wp.if_lt 30 d_S_will_22 (by decide) (fun c31 => ?_) (fun c31 => ?_)
        · have H34 := H32 c31
          refine Wp.iconst d_S_will_30 (by decide) ?_
          exact Wq.iret d_S_will_31 rfl H34
        · have H35 := H33 c31
          refine Wp.iload_n 3 3 d_S_will_25 rfl rfl ?_
          refine Wp.iconst d_S_will_26 (by decide) ?_
          obtain ⟨H37, H38⟩ := H35
          refine Wp.icmp_le 32 d_S_will_27 (by decide) (fun c36 => ?_) (fun c36 => ?_)
          · have H39 := H37 c36
            refine Wp.aload_n 0 0 d_S_will_32 rfl rfl ?_
            refine Wp.getP 25 d_S_will_33 fl_S_34 rfl rfl rfl ?_
            refine Wp.iconst d_S_will_36 (by decide) ?_
            refine Wp.aload_n 0 0 d_S_will_37 rfl rfl ?_
            refine Wp.getP 26 d_S_will_38 fl_S_37 rfl rfl rfl ?_
            refine Wp.iconst d_S_will_41 (by decide) ?_
            refine Wp.bipush d_S_will_42 (by decide) (by decide) ?_
            obtain ⟨s45, H44⟩ := H39
            refine Wq.acopy d_S_will_44 ml_S_232 rfl rfl (by decide) (by decide) hd1 (fun h => by cases h) (Nat.le_of_ble_eq_true rfl) s45 (fun m41 hm42 => ?_)
            have H43 := H44 m41 hm42
            refine Wp.iconst d_S_will_47 (by decide) ?_
            refine Wp.istore 4 [(0, .inr (.inr 0)), (1, .inl x1), (2, .inl x2), (3, .inl x3), (4, .inl 0)] d_S_will_48 (by decide) rfl ?_
            exact H43
          · have H40 := H38 c36
            refine Wp.iconst d_S_will_30 (by decide) ?_
            exact Wq.iret d_S_will_31 rfl H40
theorem s_S_will_50 {l : Launch} {G : GT} {d : Nat} {P : Int → MM → Prop} {m : MM} (x1 : Int) (x2 : Int) (x3 : Int) (x4 : Int)  (H : wfM m → inR x1 → inR x2 → inR x3 → inR x4 → (x4 ≥ x2 → ((0 ≤ x1 ∧ x1 < (8 : Int)) ∧ (P (m 26 x1) m))) ∧ (¬ (x4 ≥ x2) → ((x3 ≠ 1 → (∃ (e13 : Nat) (P14 : Int → MM → Prop), e13 < d ∧ CI l G Y_S_passDay e13 [.inr (.inr 0), .inr (.inr 26), .inl 0] m P14 ∧ (∀ z19 m20, P14 z19 m20 → inR z19 → wfM m20 → ((inR (x4 + 1)) ∧ (Wq l G false Y_S_will d (QI P) 50 [(0, .inr (.inr 0)), (1, .inl x1), (2, .inl x2), (3, .inl x3), (4, .inl (x4 + 1))] [] m20))))) ∧ (¬ (x3 ≠ 1) → (∃ (e26 : Nat) (P27 : Int → MM → Prop), e26 < d ∧ CI l G Y_S_passDay e26 [.inr (.inr 0), .inr (.inr 26), .inl 1] m P27 ∧ (∀ z32 m33, P27 z32 m33 → inR z32 → wfM m33 → ((inR (x4 + 1)) ∧ (Wq l G false Y_S_will d (QI P) 50 [(0, .inr (.inr 0)), (1, .inl x1), (2, .inl x2), (3, .inl x3), (4, .inl (x4 + 1))] [] m33)))))))) : Wq l G false Y_S_will d (QI P) 50 [(0, .inr (.inr 0)), (1, .inl x1), (2, .inl x2), (3, .inl x3), (4, .inl x4)] [] m := by
  refine Wp.wf (fun hw _ hl hs => ?_)
  have H0 := H hw (hl _ (List.mem_of_getElem? (i := 1) rfl)) (hl _ (List.mem_of_getElem? (i := 2) rfl)) (hl _ (List.mem_of_getElem? (i := 3) rfl)) (hl _ (List.mem_of_getElem? (i := 4) rfl))
  refine Wp.iload 4 4 d_S_will_50 rfl ?_
  refine Wp.iload_n 2 2 d_S_will_52 rfl rfl ?_
  obtain ⟨H2, H3⟩ := H0
  refine Wp.icmp_ge 81 d_S_will_53 (by decide) (fun c1 => ?_) (fun c1 => ?_)
  · have H4 := H2 c1
    refine Wp.aload_n 0 0 d_S_will_81 rfl rfl ?_
    refine Wp.getP 26 d_S_will_82 fl_S_37 rfl rfl rfl ?_
    refine Wp.iload_n 1 1 d_S_will_85 rfl rfl ?_
    obtain ⟨s6, H7⟩ := H4
    refine Wp.iald d_S_will_86 rfl (Or.inl rfl) s6.1 s6.2 ?_
    exact Wq.iret d_S_will_87 rfl H7
  · have H5 := H3 c1
    refine Wp.aload_n 0 0 d_S_will_56 rfl rfl ?_
    refine Wp.aload_n 0 0 d_S_will_57 rfl rfl ?_
    refine Wp.getP 26 d_S_will_58 fl_S_37 rfl rfl rfl ?_
    refine Wp.iload_n 3 3 d_S_will_61 rfl rfl ?_
    refine Wp.iconst d_S_will_62 (by decide) ?_
    obtain ⟨H9, H10⟩ := H5
    refine Wp.icmp_ne 70 d_S_will_63 (by decide) (fun c8 => ?_) (fun c8 => ?_)
    · have H11 := H9 c8
      refine Wp.iconst d_S_will_70 (by decide) ?_
      obtain ⟨e13, P14, hd15, ho16, H17⟩ := H11
      refine Wq.VI (st := []) [.inr (.inr 26), .inl 0] d_S_will_71 k_S_passDay ml_S_163 rfl rfl rfl (fun h => by cases h) (Nat.le_of_ble_eq_true rfl) hd15 ho16 (fun z19 m20 hp21 hz22 hw23 => ?_)
      have H18 := H17 z19 m20 hp21 hz22 hw23
      refine Wp.pop d_S_will_74 rfl ?_
      obtain ⟨s24, H25⟩ := H18
      refine Wp.iinc 4 4 [(0, .inr (.inr 0)), (1, .inl x1), (2, .inl x2), (3, .inl x3), (4, .inl (x4 + 1))] d_S_will_75 rfl s24 (by decide) rfl ?_
      refine Wp.goto 50 d_S_will_78 (by decide) ?_
      exact H25
    · have H12 := H10 c8
      refine Wp.iconst d_S_will_66 (by decide) ?_
      refine Wp.goto 71 d_S_will_67 (by decide) ?_
      obtain ⟨e26, P27, hd28, ho29, H30⟩ := H12
      refine Wq.VI (st := []) [.inr (.inr 26), .inl 1] d_S_will_71 k_S_passDay ml_S_163 rfl rfl rfl (fun h => by cases h) (Nat.le_of_ble_eq_true rfl) hd28 ho29 (fun z32 m33 hp34 hz35 hw36 => ?_)
      have H31 := H30 z32 m33 hp34 hz35 hw36
      refine Wp.pop d_S_will_74 rfl ?_
      obtain ⟨s37, H38⟩ := H31
      refine Wp.iinc 4 4 [(0, .inr (.inr 0)), (1, .inl x1), (2, .inl x2), (3, .inl x3), (4, .inl (x4 + 1))] d_S_will_75 rfl s37 (by decide) rfl ?_
      refine Wp.goto 50 d_S_will_78 (by decide) ?_
      exact H38
theorem d_S_rest_0 : decode Y_S_rest.2.1 0 = .ok (.aload_n 0, 1) := by decide +kernel
theorem d_S_rest_1 : decode Y_S_rest.2.1 1 = .ok (.getfield 27, 3) := by decide +kernel
theorem d_S_rest_4 : decode Y_S_rest.2.1 4 = .ok (.iload_n 1, 1) := by decide +kernel
theorem d_S_rest_5 : decode Y_S_rest.2.1 5 = .ok (.invokevirtual 142, 3) := by decide +kernel
theorem d_S_rest_8 : decode Y_S_rest.2.1 8 = .ok (.ifCond .ne 5, 3) := by decide +kernel
theorem d_S_rest_11 : decode Y_S_rest.2.1 11 = .ok (.iconst (-1), 1) := by decide +kernel
theorem d_S_rest_12 : decode Y_S_rest.2.1 12 = .ok (.ireturn, 1) := by decide +kernel
theorem d_S_rest_13 : decode Y_S_rest.2.1 13 = .ok (.aload_n 0, 1) := by decide +kernel
theorem d_S_rest_14 : decode Y_S_rest.2.1 14 = .ok (.invokevirtual 241, 3) := by decide +kernel
theorem d_S_rest_17 : decode Y_S_rest.2.1 17 = .ok (.aload_n 0, 1) := by decide +kernel
theorem d_S_rest_18 : decode Y_S_rest.2.1 18 = .ok (.getfield 60, 3) := by decide +kernel
theorem d_S_rest_21 : decode Y_S_rest.2.1 21 = .ok (.getfield 211, 3) := by decide +kernel
theorem d_S_rest_24 : decode Y_S_rest.2.1 24 = .ok (.iload_n 1, 1) := by decide +kernel
theorem d_S_rest_25 : decode Y_S_rest.2.1 25 = .ok (.iaload, 1) := by decide +kernel
theorem d_S_rest_26 : decode Y_S_rest.2.1 26 = .ok (.ireturn, 1) := by decide +kernel
theorem e_S_rest {l : Launch} {G : GT} {d : Nat} {P : Int → MM → Prop} {m : MM} (x1 : Int)  (H : wfM m → inR x1 → ∃ b1 : Nat, m 0 5 = b1 ∧ isB b1 ∧ (∃ (e5 : Nat) (P6 : Int → MM → Prop), e5 < d ∧ CI l G Y_Board_has e5 [.inr (.inr b1), .inl x1] m P6 ∧ (∀ z11 m12, P6 z11 m12 → inR z11 → wfM m12 → ((z11 ≠ 0 → (∃ (e21 : Nat) (P22 : MM → Prop), e21 < d ∧ CV l G Y_S_settleAhead e21 [.inr (.inr 0)] m12 P22 ∧ (∀ m28, P22 m28 → wfM m28 → ((0 ≤ x1 ∧ x1 < (5 : Int)) ∧ (P (m28 33 x1) m28))))) ∧ (¬ (z11 ≠ 0) → (P (-1) m12)))))) : CI l G Y_S_rest d [.inr (.inr 0), .inl x1] m P := by
  refine CI.of [(0, .inr (.inr 0)), (1, .inl x1)] k_S_rest.1 (Nat.le_of_ble_eq_true rfl) rfl (Wp.wf (fun hw _ hl hs => ?_))
  have H0 := H hw (hl _ (List.mem_of_getElem? (i := 1) rfl))
  refine Wp.aload_n 0 0 d_S_rest_0 rfl rfl ?_
  obtain ⟨b1, hb2, hB3, H4⟩ := H0
  refine Wp.getR b1 d_S_rest_1 fl_S_27 rfl (Or.inl rfl) rfl hb2 ?_
  refine Wp.iload_n 1 1 d_S_rest_4 rfl rfl ?_
  obtain ⟨e5, P6, hd7, ho8, H9⟩ := H4
  refine Wq.VI (st := []) [.inl x1] d_S_rest_5 k_Board_has ml_S_142 rfl (isB_lay hB3) rfl (fun h => by cases h) (Nat.le_of_ble_eq_true rfl) hd7 ho8 (fun z11 m12 hp13 hz14 hw15 => ?_)
  have H10 := H9 z11 m12 hp13 hz14 hw15
  obtain ⟨H17, H18⟩ := H10
  refine Wp.if_ne 13 d_S_rest_8 (by decide) (fun c16 => ?_) (fun c16 => ?_)
  · have H19 := H17 c16
    refine Wp.aload_n 0 0 d_S_rest_13 rfl rfl ?_
    obtain ⟨e21, P22, hd23, ho24, H25⟩ := H19
    refine Wq.VV (st := []) [] d_S_rest_14 k_S_settleAhead ml_S_241 rfl rfl rfl (fun h => by cases h) (Nat.le_of_ble_eq_true rfl) hd23 ho24 (fun m28 hp29 hw31 => ?_)
    have H26 := H25 m28 hp29 hw31
    refine Wp.aload_n 0 0 d_S_rest_17 rfl rfl ?_
    refine Wp.getP 32 d_S_rest_18 fl_S_60 rfl rfl rfl ?_
    refine Wp.getP 33 d_S_rest_21 fl_S_211 rfl rfl rfl ?_
    refine Wp.iload_n 1 1 d_S_rest_24 rfl rfl ?_
    obtain ⟨s32, H33⟩ := H26
    refine Wp.iald d_S_rest_25 rfl (Or.inl rfl) s32.1 s32.2 ?_
    exact Wq.iret d_S_rest_26 rfl H33
  · have H20 := H18 c16
    refine Wp.iconst d_S_rest_11 (by decide) ?_
    exact Wq.iret d_S_rest_12 rfl H20
theorem d_S_settleAhead_0 : decode Y_S_settleAhead.2.1 0 = .ok (.aload_n 0, 1) := by decide +kernel
theorem d_S_settleAhead_1 : decode Y_S_settleAhead.2.1 1 = .ok (.getfield 60, 3) := by decide +kernel
theorem d_S_settleAhead_4 : decode Y_S_settleAhead.2.1 4 = .ok (.aload_n 0, 1) := by decide +kernel
theorem d_S_settleAhead_5 : decode Y_S_settleAhead.2.1 5 = .ok (.getfield 34, 3) := by decide +kernel
theorem d_S_settleAhead_8 : decode Y_S_settleAhead.2.1 8 = .ok (.invokevirtual 199, 3) := by decide +kernel
theorem d_S_settleAhead_11 : decode Y_S_settleAhead.2.1 11 = .ok (.aload_n 0, 1) := by decide +kernel
theorem d_S_settleAhead_12 : decode Y_S_settleAhead.2.1 12 = .ok (.getfield 60, 3) := by decide +kernel
theorem d_S_settleAhead_15 : decode Y_S_settleAhead.2.1 15 = .ok (.aload_n 0, 1) := by decide +kernel
theorem d_S_settleAhead_16 : decode Y_S_settleAhead.2.1 16 = .ok (.getfield 27, 3) := by decide +kernel
theorem d_S_settleAhead_19 : decode Y_S_settleAhead.2.1 19 = .ok (.invokevirtual 202, 3) := by decide +kernel
theorem d_S_settleAhead_22 : decode Y_S_settleAhead.2.1 22 = .ok (.return_, 1) := by decide +kernel
theorem e_S_settleAhead {l : Launch} {G : GT} {d : Nat} {P : MM → Prop} {m : MM}   (H : wfM m → ∃ (e1 : Nat) (P2 : MM → Prop), e1 < d ∧ CV l G Y_Sand_take e1 [.inr (.inr 32), .inr (.inr 25)] m P2 ∧ (∀ m8, P2 m8 → wfM m8 → (∃ b12 : Nat, m8 0 5 = b12 ∧ isB b12 ∧ (∃ (e16 : Nat) (P17 : MM → Prop), e16 < d ∧ CV l G Y_Sand_calm e16 [.inr (.inr 32), .inr (.inr b12)] m8 P17 ∧ (∀ m23, P17 m23 → wfM m23 → (P m23)))))) : CV l G Y_S_settleAhead d [.inr (.inr 0)] m P := by
  refine CV.of [(0, .inr (.inr 0))] k_S_settleAhead.1 (Nat.le_of_ble_eq_true rfl) rfl (Wp.wf (fun hw _ hl hs => ?_))
  have H0 := H hw
  refine Wp.aload_n 0 0 d_S_settleAhead_0 rfl rfl ?_
  refine Wp.getP 32 d_S_settleAhead_1 fl_S_60 rfl rfl rfl ?_
  refine Wp.aload_n 0 0 d_S_settleAhead_4 rfl rfl ?_
  refine Wp.getP 25 d_S_settleAhead_5 fl_S_34 rfl rfl rfl ?_
  obtain ⟨e1, P2, hd3, ho4, H5⟩ := H0
  refine Wq.VV (st := []) [.inr (.inr 25)] d_S_settleAhead_8 k_Sand_take ml_S_199 rfl rfl rfl (fun h => by cases h) (Nat.le_of_ble_eq_true rfl) hd3 ho4 (fun m8 hp9 hw11 => ?_)
  have H6 := H5 m8 hp9 hw11
  refine Wp.aload_n 0 0 d_S_settleAhead_11 rfl rfl ?_
  refine Wp.getP 32 d_S_settleAhead_12 fl_S_60 rfl rfl rfl ?_
  refine Wp.aload_n 0 0 d_S_settleAhead_15 rfl rfl ?_
  obtain ⟨b12, hb13, hB14, H15⟩ := H6
  refine Wp.getR b12 d_S_settleAhead_16 fl_S_27 rfl (Or.inl rfl) rfl hb13 ?_
  obtain ⟨e16, P17, hd18, ho19, H20⟩ := H15
  refine Wq.VV (st := []) [.inr (.inr b12)] d_S_settleAhead_19 k_Sand_calm ml_S_202 rfl rfl rfl (fun h => by cases h) (Nat.le_of_ble_eq_true rfl) hd18 ho19 (fun m23 hp24 hw26 => ?_)
  have H21 := H20 m23 hp24 hw26
  exact Wq.vret d_S_settleAhead_22 rfl H21
theorem d_S_often_0 : decode Y_S_often.2.1 0 = .ok (.aload_n 0, 1) := by decide +kernel
theorem d_S_often_1 : decode Y_S_often.2.1 1 = .ok (.getfield 27, 3) := by decide +kernel
theorem d_S_often_4 : decode Y_S_often.2.1 4 = .ok (.iload_n 1, 1) := by decide +kernel
theorem d_S_often_5 : decode Y_S_often.2.1 5 = .ok (.invokevirtual 142, 3) := by decide +kernel
theorem d_S_often_8 : decode Y_S_often.2.1 8 = .ok (.ifCond .ne 5, 3) := by decide +kernel
theorem d_S_often_11 : decode Y_S_often.2.1 11 = .ok (.iconst (-1), 1) := by decide +kernel
theorem d_S_often_12 : decode Y_S_often.2.1 12 = .ok (.ireturn, 1) := by decide +kernel
theorem d_S_often_13 : decode Y_S_often.2.1 13 = .ok (.aload_n 0, 1) := by decide +kernel
theorem d_S_often_14 : decode Y_S_often.2.1 14 = .ok (.invokevirtual 241, 3) := by decide +kernel
theorem d_S_often_17 : decode Y_S_often.2.1 17 = .ok (.aload_n 0, 1) := by decide +kernel
theorem d_S_often_18 : decode Y_S_often.2.1 18 = .ok (.getfield 60, 3) := by decide +kernel
theorem d_S_often_21 : decode Y_S_often.2.1 21 = .ok (.getfield 244, 3) := by decide +kernel
theorem d_S_often_24 : decode Y_S_often.2.1 24 = .ok (.iload_n 1, 1) := by decide +kernel
theorem d_S_often_25 : decode Y_S_often.2.1 25 = .ok (.iaload, 1) := by decide +kernel
theorem d_S_often_26 : decode Y_S_often.2.1 26 = .ok (.ireturn, 1) := by decide +kernel
theorem e_S_often {l : Launch} {G : GT} {d : Nat} {P : Int → MM → Prop} {m : MM} (x1 : Int)  (H : wfM m → inR x1 → ∃ b1 : Nat, m 0 5 = b1 ∧ isB b1 ∧ (∃ (e5 : Nat) (P6 : Int → MM → Prop), e5 < d ∧ CI l G Y_Board_has e5 [.inr (.inr b1), .inl x1] m P6 ∧ (∀ z11 m12, P6 z11 m12 → inR z11 → wfM m12 → ((z11 ≠ 0 → (∃ (e21 : Nat) (P22 : MM → Prop), e21 < d ∧ CV l G Y_S_settleAhead e21 [.inr (.inr 0)] m12 P22 ∧ (∀ m28, P22 m28 → wfM m28 → ((0 ≤ x1 ∧ x1 < (5 : Int)) ∧ (P (m28 34 x1) m28))))) ∧ (¬ (z11 ≠ 0) → (P (-1) m12)))))) : CI l G Y_S_often d [.inr (.inr 0), .inl x1] m P := by
  refine CI.of [(0, .inr (.inr 0)), (1, .inl x1)] k_S_often.1 (Nat.le_of_ble_eq_true rfl) rfl (Wp.wf (fun hw _ hl hs => ?_))
  have H0 := H hw (hl _ (List.mem_of_getElem? (i := 1) rfl))
  refine Wp.aload_n 0 0 d_S_often_0 rfl rfl ?_
  obtain ⟨b1, hb2, hB3, H4⟩ := H0
  refine Wp.getR b1 d_S_often_1 fl_S_27 rfl (Or.inl rfl) rfl hb2 ?_
  refine Wp.iload_n 1 1 d_S_often_4 rfl rfl ?_
  obtain ⟨e5, P6, hd7, ho8, H9⟩ := H4
  refine Wq.VI (st := []) [.inl x1] d_S_often_5 k_Board_has ml_S_142 rfl (isB_lay hB3) rfl (fun h => by cases h) (Nat.le_of_ble_eq_true rfl) hd7 ho8 (fun z11 m12 hp13 hz14 hw15 => ?_)
  have H10 := H9 z11 m12 hp13 hz14 hw15
  obtain ⟨H17, H18⟩ := H10
  refine Wp.if_ne 13 d_S_often_8 (by decide) (fun c16 => ?_) (fun c16 => ?_)
  · have H19 := H17 c16
    refine Wp.aload_n 0 0 d_S_often_13 rfl rfl ?_
    obtain ⟨e21, P22, hd23, ho24, H25⟩ := H19
    refine Wq.VV (st := []) [] d_S_often_14 k_S_settleAhead ml_S_241 rfl rfl rfl (fun h => by cases h) (Nat.le_of_ble_eq_true rfl) hd23 ho24 (fun m28 hp29 hw31 => ?_)
    have H26 := H25 m28 hp29 hw31
    refine Wp.aload_n 0 0 d_S_often_17 rfl rfl ?_
    refine Wp.getP 32 d_S_often_18 fl_S_60 rfl rfl rfl ?_
    refine Wp.getP 34 d_S_often_21 fl_S_244 rfl rfl rfl ?_
    refine Wp.iload_n 1 1 d_S_often_24 rfl rfl ?_
    obtain ⟨s32, H33⟩ := H26
    refine Wp.iald d_S_often_25 rfl (Or.inl rfl) s32.1 s32.2 ?_
    exact Wq.iret d_S_often_26 rfl H33
  · have H20 := H18 c16
    refine Wp.iconst d_S_often_11 (by decide) ?_
    exact Wq.iret d_S_often_12 rfl H20
theorem d_S_spilt_0 : decode Y_S_spilt.2.1 0 = .ok (.aload_n 0, 1) := by decide +kernel
theorem d_S_spilt_1 : decode Y_S_spilt.2.1 1 = .ok (.invokevirtual 241, 3) := by decide +kernel
theorem d_S_spilt_4 : decode Y_S_spilt.2.1 4 = .ok (.aload_n 0, 1) := by decide +kernel
theorem d_S_spilt_5 : decode Y_S_spilt.2.1 5 = .ok (.getfield 60, 3) := by decide +kernel
theorem d_S_spilt_8 : decode Y_S_spilt.2.1 8 = .ok (.getfield 214, 3) := by decide +kernel
theorem d_S_spilt_11 : decode Y_S_spilt.2.1 11 = .ok (.ireturn, 1) := by decide +kernel
theorem e_S_spilt {l : Launch} {G : GT} {d : Nat} {P : Int → MM → Prop} {m : MM}   (H : wfM m → ∃ (e1 : Nat) (P2 : MM → Prop), e1 < d ∧ CV l G Y_S_settleAhead e1 [.inr (.inr 0)] m P2 ∧ (∀ m8, P2 m8 → wfM m8 → (P (m8 32 3) m8))) : CI l G Y_S_spilt d [.inr (.inr 0)] m P := by
  refine CI.of [(0, .inr (.inr 0))] k_S_spilt.1 (Nat.le_of_ble_eq_true rfl) rfl (Wp.wf (fun hw _ hl hs => ?_))
  have H0 := H hw
  refine Wp.aload_n 0 0 d_S_spilt_0 rfl rfl ?_
  obtain ⟨e1, P2, hd3, ho4, H5⟩ := H0
  refine Wq.VV (st := []) [] d_S_spilt_1 k_S_settleAhead ml_S_241 rfl rfl rfl (fun h => by cases h) (Nat.le_of_ble_eq_true rfl) hd3 ho4 (fun m8 hp9 hw11 => ?_)
  have H6 := H5 m8 hp9 hw11
  refine Wp.aload_n 0 0 d_S_spilt_4 rfl rfl ?_
  refine Wp.getP 32 d_S_spilt_5 fl_S_60 rfl rfl rfl ?_
  refine Wq.getI 3 rfl d_S_spilt_8 fl_S_214 rfl (Or.inl rfl) ?_
  exact Wq.iret d_S_spilt_11 rfl H6
theorem d_S_row_0 : decode Y_S_row.2.1 0 = .ok (.aload_n 0, 1) := by decide +kernel
theorem d_S_row_1 : decode Y_S_row.2.1 1 = .ok (.getfield 91, 3) := by decide +kernel
theorem d_S_row_4 : decode Y_S_row.2.1 4 = .ok (.invokevirtual 132, 3) := by decide +kernel
theorem d_S_row_7 : decode Y_S_row.2.1 7 = .ok (.aload_n 0, 1) := by decide +kernel
theorem d_S_row_8 : decode Y_S_row.2.1 8 = .ok (.getfield 60, 3) := by decide +kernel
theorem d_S_row_11 : decode Y_S_row.2.1 11 = .ok (.aload_n 0, 1) := by decide +kernel
theorem d_S_row_12 : decode Y_S_row.2.1 12 = .ok (.getfield 34, 3) := by decide +kernel
theorem d_S_row_15 : decode Y_S_row.2.1 15 = .ok (.invokevirtual 199, 3) := by decide +kernel
theorem d_S_row_18 : decode Y_S_row.2.1 18 = .ok (.aload_n 0, 1) := by decide +kernel
theorem d_S_row_19 : decode Y_S_row.2.1 19 = .ok (.getfield 27, 3) := by decide +kernel
theorem d_S_row_22 : decode Y_S_row.2.1 22 = .ok (.aload_n 0, 1) := by decide +kernel
theorem d_S_row_23 : decode Y_S_row.2.1 23 = .ok (.getfield 60, 3) := by decide +kernel
theorem d_S_row_26 : decode Y_S_row.2.1 26 = .ok (.getfield 211, 3) := by decide +kernel
theorem d_S_row_29 : decode Y_S_row.2.1 29 = .ok (.invokevirtual 238, 3) := by decide +kernel
theorem d_S_row_32 : decode Y_S_row.2.1 32 = .ok (.istore_n 1, 1) := by decide +kernel
theorem d_S_row_33 : decode Y_S_row.2.1 33 = .ok (.iconst 0, 1) := by decide +kernel
theorem d_S_row_34 : decode Y_S_row.2.1 34 = .ok (.istore_n 2, 1) := by decide +kernel
theorem d_S_row_35 : decode Y_S_row.2.1 35 = .ok (.iload_n 2, 1) := by decide +kernel
theorem d_S_row_36 : decode Y_S_row.2.1 36 = .ok (.bipush 60, 2) := by decide +kernel
theorem d_S_row_38 : decode Y_S_row.2.1 38 = .ok (.if_icmp .ge 54, 3) := by decide +kernel
theorem d_S_row_41 : decode Y_S_row.2.1 41 = .ok (.iload_n 1, 1) := by decide +kernel
theorem d_S_row_42 : decode Y_S_row.2.1 42 = .ok (.ifCond .eq 50, 3) := by decide +kernel
theorem d_S_row_45 : decode Y_S_row.2.1 45 = .ok (.iload_n 1, 1) := by decide +kernel
theorem d_S_row_46 : decode Y_S_row.2.1 46 = .ok (.invokestatic 247, 3) := by decide +kernel
theorem d_S_row_49 : decode Y_S_row.2.1 49 = .ok (.istore_n 3, 1) := by decide +kernel
theorem d_S_row_50 : decode Y_S_row.2.1 50 = .ok (.aload_n 0, 1) := by decide +kernel
theorem d_S_row_51 : decode Y_S_row.2.1 51 = .ok (.getfield 60, 3) := by decide +kernel
theorem d_S_row_54 : decode Y_S_row.2.1 54 = .ok (.aload_n 0, 1) := by decide +kernel
theorem d_S_row_55 : decode Y_S_row.2.1 55 = .ok (.getfield 27, 3) := by decide +kernel
theorem d_S_row_58 : decode Y_S_row.2.1 58 = .ok (.iload_n 3, 1) := by decide +kernel
theorem d_S_row_59 : decode Y_S_row.2.1 59 = .ok (.iconst 1, 1) := by decide +kernel
theorem d_S_row_60 : decode Y_S_row.2.1 60 = .ok (.invokevirtual 217, 3) := by decide +kernel
theorem d_S_row_63 : decode Y_S_row.2.1 63 = .ok (.aload_n 0, 1) := by decide +kernel
theorem d_S_row_64 : decode Y_S_row.2.1 64 = .ok (.getfield 91, 3) := by decide +kernel
theorem d_S_row_67 : decode Y_S_row.2.1 67 = .ok (.iload_n 3, 1) := by decide +kernel
theorem d_S_row_68 : decode Y_S_row.2.1 68 = .ok (.invokevirtual 252, 3) := by decide +kernel
theorem d_S_row_71 : decode Y_S_row.2.1 71 = .ok (.aload_n 0, 1) := by decide +kernel
theorem d_S_row_72 : decode Y_S_row.2.1 72 = .ok (.getfield 27, 3) := by decide +kernel
theorem d_S_row_75 : decode Y_S_row.2.1 75 = .ok (.aload_n 0, 1) := by decide +kernel
theorem d_S_row_76 : decode Y_S_row.2.1 76 = .ok (.getfield 60, 3) := by decide +kernel
theorem d_S_row_79 : decode Y_S_row.2.1 79 = .ok (.getfield 211, 3) := by decide +kernel
theorem d_S_row_82 : decode Y_S_row.2.1 82 = .ok (.invokevirtual 238, 3) := by decide +kernel
theorem d_S_row_85 : decode Y_S_row.2.1 85 = .ok (.istore_n 1, 1) := by decide +kernel
theorem d_S_row_86 : decode Y_S_row.2.1 86 = .ok (.iinc 2 1, 3) := by decide +kernel
theorem d_S_row_89 : decode Y_S_row.2.1 89 = .ok (.goto (-54), 3) := by decide +kernel
theorem d_S_row_92 : decode Y_S_row.2.1 92 = .ok (.aload_n 0, 1) := by decide +kernel
theorem d_S_row_93 : decode Y_S_row.2.1 93 = .ok (.getfield 60, 3) := by decide +kernel
theorem d_S_row_96 : decode Y_S_row.2.1 96 = .ok (.aload_n 0, 1) := by decide +kernel
theorem d_S_row_97 : decode Y_S_row.2.1 97 = .ok (.getfield 27, 3) := by decide +kernel
theorem d_S_row_100 : decode Y_S_row.2.1 100 = .ok (.invokevirtual 202, 3) := by decide +kernel
theorem d_S_row_103 : decode Y_S_row.2.1 103 = .ok (.aload_n 0, 1) := by decide +kernel
theorem d_S_row_104 : decode Y_S_row.2.1 104 = .ok (.getfield 60, 3) := by decide +kernel
theorem d_S_row_107 : decode Y_S_row.2.1 107 = .ok (.getfield 208, 3) := by decide +kernel
theorem d_S_row_110 : decode Y_S_row.2.1 110 = .ok (.ireturn, 1) := by decide +kernel
theorem e_S_row {l : Launch} {G : GT} {d : Nat} {P : Int → MM → Prop} {m : MM}   (H : wfM m → ∃ (e1 : Nat) (P2 : MM → Prop), e1 < d ∧ CV l G Y_Lying_clear e1 [.inr (.inr 67)] m P2 ∧ (∀ m8, P2 m8 → wfM m8 → (∃ (e12 : Nat) (P13 : MM → Prop), e12 < d ∧ CV l G Y_Sand_take e12 [.inr (.inr 32), .inr (.inr 25)] m8 P13 ∧ (∀ m19, P13 m19 → wfM m19 → (∃ b23 : Nat, m19 0 5 = b23 ∧ isB b23 ∧ (∃ (e27 : Nat) (P28 : Int → MM → Prop), e27 < d ∧ CI l G Y_Board_overfull e27 [.inr (.inr b23), .inr (.inr 33)] m19 P28 ∧ (∀ z33 m34, P28 z33 m34 → inR z33 → wfM m34 → (Wq l G false Y_S_row d (QI P) 35 [(0, .inr (.inr 0)), (1, .inl z33), (2, .inl 0)] [] m34)))))))) : CI l G Y_S_row d [.inr (.inr 0)] m P := by
  refine CI.of [(0, .inr (.inr 0))] k_S_row.1 (Nat.le_of_ble_eq_true rfl) rfl (Wp.wf (fun hw _ hl hs => ?_))
  have H0 := H hw
  refine Wp.aload_n 0 0 d_S_row_0 rfl rfl ?_
  refine Wp.getP 67 d_S_row_1 fl_S_91 rfl rfl rfl ?_
  obtain ⟨e1, P2, hd3, ho4, H5⟩ := H0
  refine Wq.VV (st := []) [] d_S_row_4 k_Lying_clear ml_S_132 rfl rfl rfl (fun h => by cases h) (Nat.le_of_ble_eq_true rfl) hd3 ho4 (fun m8 hp9 hw11 => ?_)
  have H6 := H5 m8 hp9 hw11
  refine Wp.aload_n 0 0 d_S_row_7 rfl rfl ?_
  refine Wp.getP 32 d_S_row_8 fl_S_60 rfl rfl rfl ?_
  refine Wp.aload_n 0 0 d_S_row_11 rfl rfl ?_
  refine Wp.getP 25 d_S_row_12 fl_S_34 rfl rfl rfl ?_
  obtain ⟨e12, P13, hd14, ho15, H16⟩ := H6
  refine Wq.VV (st := []) [.inr (.inr 25)] d_S_row_15 k_Sand_take ml_S_199 rfl rfl rfl (fun h => by cases h) (Nat.le_of_ble_eq_true rfl) hd14 ho15 (fun m19 hp20 hw22 => ?_)
  have H17 := H16 m19 hp20 hw22
  refine Wp.aload_n 0 0 d_S_row_18 rfl rfl ?_
  obtain ⟨b23, hb24, hB25, H26⟩ := H17
  refine Wp.getR b23 d_S_row_19 fl_S_27 rfl (Or.inl rfl) rfl hb24 ?_
  refine Wp.aload_n 0 0 d_S_row_22 rfl rfl ?_
  refine Wp.getP 32 d_S_row_23 fl_S_60 rfl rfl rfl ?_
  refine Wp.getP 33 d_S_row_26 fl_S_211 rfl rfl rfl ?_
  obtain ⟨e27, P28, hd29, ho30, H31⟩ := H26
  refine Wq.VI (st := []) [.inr (.inr 33)] d_S_row_29 k_Board_overfull ml_S_238 rfl (isB_lay hB25) rfl (fun h => by cases h) (Nat.le_of_ble_eq_true rfl) hd29 ho30 (fun z33 m34 hp35 hz36 hw37 => ?_)
  have H32 := H31 z33 m34 hp35 hz36 hw37
  refine Wp.istore_n 1 [(0, .inr (.inr 0)), (1, .inl z33)] d_S_row_32 rfl (by decide) rfl ?_
  refine Wp.iconst d_S_row_33 (by decide) ?_
  refine Wp.istore_n 2 [(0, .inr (.inr 0)), (1, .inl z33), (2, .inl 0)] d_S_row_34 rfl (by decide) rfl ?_
  exact H32
theorem s_S_row_35 {l : Launch} {G : GT} {d : Nat} {P : Int → MM → Prop} {m : MM} (x1 : Int) (x2 : Int)  (H : wfM m → inR x1 → inR x2 → (x2 ≥ 60 → (∃ b6 : Nat, m 0 5 = b6 ∧ isB b6 ∧ (∃ (e10 : Nat) (P11 : MM → Prop), e10 < d ∧ CV l G Y_Sand_calm e10 [.inr (.inr 32), .inr (.inr b6)] m P11 ∧ (∀ m17, P11 m17 → wfM m17 → (P (m17 32 2) m17))))) ∧ (¬ (x2 ≥ 60) → ((x1 = 0 → (∃ b26 : Nat, m 0 5 = b26 ∧ isB b26 ∧ (∃ (e30 : Nat) (P31 : MM → Prop), e30 < d ∧ CV l G Y_Sand_calm e30 [.inr (.inr 32), .inr (.inr b26)] m P31 ∧ (∀ m37, P31 m37 → wfM m37 → (P (m37 32 2) m37))))) ∧ (¬ (x1 = 0) → (∃ (e41 : Nat) (P42 : Int → MM → Prop), e41 < d ∧ CI l G Y_Integer_numberOfTrailingZeros e41 [.inl x1] m P42 ∧ (∀ z47 m48, P42 z47 m48 → inR z47 → wfM m48 → (∃ b52 : Nat, m48 0 5 = b52 ∧ isB b52 ∧ (∃ (e56 : Nat) (P57 : MM → Prop), e56 < d ∧ CV l G Y_Sand_tip e56 [.inr (.inr 32), .inr (.inr b52), .inl z47, .inl 1] m48 P57 ∧ (∀ m63, P57 m63 → wfM m63 → (∃ (e67 : Nat) (P68 : MM → Prop), e67 < d ∧ CV l G Y_Lying_put e67 [.inr (.inr 67), .inl z47] m63 P68 ∧ (∀ m74, P68 m74 → wfM m74 → (∃ b78 : Nat, m74 0 5 = b78 ∧ isB b78 ∧ (∃ (e82 : Nat) (P83 : Int → MM → Prop), e82 < d ∧ CI l G Y_Board_overfull e82 [.inr (.inr b78), .inr (.inr 33)] m74 P83 ∧ (∀ z88 m89, P83 z88 m89 → inR z88 → wfM m89 → ((inR (x2 + 1)) ∧ (Wq l G false Y_S_row d (QI P) 35 [(0, .inr (.inr 0)), (1, .inl z88), (2, .inl (x2 + 1))] [] m89)))))))))))))))) : Wq l G false Y_S_row d (QI P) 35 [(0, .inr (.inr 0)), (1, .inl x1), (2, .inl x2)] [] m := by
  refine Wp.wf (fun hw _ hl hs => ?_)
  have H0 := H hw (hl _ (List.mem_of_getElem? (i := 1) rfl)) (hl _ (List.mem_of_getElem? (i := 2) rfl))
  refine Wp.iload_n 2 2 d_S_row_35 rfl rfl ?_
  refine Wp.bipush d_S_row_36 (by decide) (by decide) ?_
  obtain ⟨H2, H3⟩ := H0
  refine Wp.icmp_ge 92 d_S_row_38 (by decide) (fun c1 => ?_) (fun c1 => ?_)
  · have H4 := H2 c1
    refine Wp.aload_n 0 0 d_S_row_92 rfl rfl ?_
    refine Wp.getP 32 d_S_row_93 fl_S_60 rfl rfl rfl ?_
    refine Wp.aload_n 0 0 d_S_row_96 rfl rfl ?_
    obtain ⟨b6, hb7, hB8, H9⟩ := H4
    refine Wp.getR b6 d_S_row_97 fl_S_27 rfl (Or.inl rfl) rfl hb7 ?_
    obtain ⟨e10, P11, hd12, ho13, H14⟩ := H9
    refine Wq.VV (st := []) [.inr (.inr b6)] d_S_row_100 k_Sand_calm ml_S_202 rfl rfl rfl (fun h => by cases h) (Nat.le_of_ble_eq_true rfl) hd12 ho13 (fun m17 hp18 hw20 => ?_)
    have H15 := H14 m17 hp18 hw20
    refine Wp.aload_n 0 0 d_S_row_103 rfl rfl ?_
    refine Wp.getP 32 d_S_row_104 fl_S_60 rfl rfl rfl ?_
    refine Wq.getI 2 rfl d_S_row_107 fl_S_208 rfl (Or.inl rfl) ?_
    exact Wq.iret d_S_row_110 rfl H15
  · have H5 := H3 c1
    refine Wp.iload_n 1 1 d_S_row_41 rfl rfl ?_
    obtain ⟨H22, H23⟩ := H5
    refine Wp.if_eq 92 d_S_row_42 (by decide) (fun c21 => ?_) (fun c21 => ?_)
    · have H24 := H22 c21
      refine Wp.aload_n 0 0 d_S_row_92 rfl rfl ?_
      refine Wp.getP 32 d_S_row_93 fl_S_60 rfl rfl rfl ?_
      refine Wp.aload_n 0 0 d_S_row_96 rfl rfl ?_
      obtain ⟨b26, hb27, hB28, H29⟩ := H24
      refine Wp.getR b26 d_S_row_97 fl_S_27 rfl (Or.inl rfl) rfl hb27 ?_
      obtain ⟨e30, P31, hd32, ho33, H34⟩ := H29
      refine Wq.VV (st := []) [.inr (.inr b26)] d_S_row_100 k_Sand_calm ml_S_202 rfl rfl rfl (fun h => by cases h) (Nat.le_of_ble_eq_true rfl) hd32 ho33 (fun m37 hp38 hw40 => ?_)
      have H35 := H34 m37 hp38 hw40
      refine Wp.aload_n 0 0 d_S_row_103 rfl rfl ?_
      refine Wp.getP 32 d_S_row_104 fl_S_60 rfl rfl rfl ?_
      refine Wq.getI 2 rfl d_S_row_107 fl_S_208 rfl (Or.inl rfl) ?_
      exact Wq.iret d_S_row_110 rfl H35
    · have H25 := H23 c21
      refine Wp.iload_n 1 1 d_S_row_45 rfl rfl ?_
      obtain ⟨e41, P42, hd43, ho44, H45⟩ := H25
      refine Wq.SI (st := []) [.inl x1] d_S_row_46 k_Integer_numberOfTrailingZeros ml_S_247 rfl  (fun h => by cases h) (Nat.le_of_ble_eq_true rfl) hd43 ho44 (fun z47 m48 hp49 hz50 hw51 => ?_)
      have H46 := H45 z47 m48 hp49 hz50 hw51
      refine Wp.istore_n 3 [(0, .inr (.inr 0)), (1, .inl x1), (2, .inl x2), (3, .inl z47)] d_S_row_49 rfl (by decide) rfl ?_
      refine Wp.aload_n 0 0 d_S_row_50 rfl rfl ?_
      refine Wp.getP 32 d_S_row_51 fl_S_60 rfl rfl rfl ?_
      refine Wp.aload_n 0 0 d_S_row_54 rfl rfl ?_
      obtain ⟨b52, hb53, hB54, H55⟩ := H46
      refine Wp.getR b52 d_S_row_55 fl_S_27 rfl (Or.inl rfl) rfl hb53 ?_
      refine Wp.iload_n 3 3 d_S_row_58 rfl rfl ?_
      refine Wp.iconst d_S_row_59 (by decide) ?_
      obtain ⟨e56, P57, hd58, ho59, H60⟩ := H55
      refine Wq.VV (st := []) [.inr (.inr b52), .inl z47, .inl 1] d_S_row_60 k_Sand_tip ml_S_217 rfl rfl rfl (fun h => by cases h) (Nat.le_of_ble_eq_true rfl) hd58 ho59 (fun m63 hp64 hw66 => ?_)
      have H61 := H60 m63 hp64 hw66
      refine Wp.aload_n 0 0 d_S_row_63 rfl rfl ?_
      refine Wp.getP 67 d_S_row_64 fl_S_91 rfl rfl rfl ?_
      refine Wp.iload_n 3 3 d_S_row_67 rfl rfl ?_
      obtain ⟨e67, P68, hd69, ho70, H71⟩ := H61
      refine Wq.VV (st := []) [.inl z47] d_S_row_68 k_Lying_put ml_S_252 rfl rfl rfl (fun h => by cases h) (Nat.le_of_ble_eq_true rfl) hd69 ho70 (fun m74 hp75 hw77 => ?_)
      have H72 := H71 m74 hp75 hw77
      refine Wp.aload_n 0 0 d_S_row_71 rfl rfl ?_
      obtain ⟨b78, hb79, hB80, H81⟩ := H72
      refine Wp.getR b78 d_S_row_72 fl_S_27 rfl (Or.inl rfl) rfl hb79 ?_
      refine Wp.aload_n 0 0 d_S_row_75 rfl rfl ?_
      refine Wp.getP 32 d_S_row_76 fl_S_60 rfl rfl rfl ?_
      refine Wp.getP 33 d_S_row_79 fl_S_211 rfl rfl rfl ?_
      obtain ⟨e82, P83, hd84, ho85, H86⟩ := H81
      refine Wq.VI (st := []) [.inr (.inr 33)] d_S_row_82 k_Board_overfull ml_S_238 rfl (isB_lay hB80) rfl (fun h => by cases h) (Nat.le_of_ble_eq_true rfl) hd84 ho85 (fun z88 m89 hp90 hz91 hw92 => ?_)
      have H87 := H86 z88 m89 hp90 hz91 hw92
      refine Wp.istore_n 1 [(0, .inr (.inr 0)), (1, .inl z88), (2, .inl x2), (3, .inl z47)] d_S_row_85 rfl (by decide) rfl ?_
      obtain ⟨s93, H94⟩ := H87
      refine Wp.iinc 2 2 [(0, .inr (.inr 0)), (1, .inl z88), (2, .inl (x2 + 1)), (3, .inl z47)] d_S_row_86 rfl s93 (by decide) rfl ?_
      refine Wp.goto 35 d_S_row_89 (by decide) ?_
      refine Wp.pick [0, 1, 2] [(0, .inr (.inr 0)), (1, .inl z88), (2, .inl (x2 + 1))] rfl ?_
      exact H94
theorem d_S_rounds_0 : decode Y_S_rounds.2.1 0 = .ok (.aload_n 0, 1) := by decide +kernel
theorem d_S_rounds_1 : decode Y_S_rounds.2.1 1 = .ok (.getfield 60, 3) := by decide +kernel
theorem d_S_rounds_4 : decode Y_S_rounds.2.1 4 = .ok (.aload_n 0, 1) := by decide +kernel
theorem d_S_rounds_5 : decode Y_S_rounds.2.1 5 = .ok (.getfield 34, 3) := by decide +kernel
theorem d_S_rounds_8 : decode Y_S_rounds.2.1 8 = .ok (.invokevirtual 199, 3) := by decide +kernel
theorem d_S_rounds_11 : decode Y_S_rounds.2.1 11 = .ok (.iconst 0, 1) := by decide +kernel
theorem d_S_rounds_12 : decode Y_S_rounds.2.1 12 = .ok (.istore_n 1, 1) := by decide +kernel
theorem d_S_rounds_13 : decode Y_S_rounds.2.1 13 = .ok (.aload_n 0, 1) := by decide +kernel
theorem d_S_rounds_14 : decode Y_S_rounds.2.1 14 = .ok (.getfield 27, 3) := by decide +kernel
theorem d_S_rounds_17 : decode Y_S_rounds.2.1 17 = .ok (.aload_n 0, 1) := by decide +kernel
theorem d_S_rounds_18 : decode Y_S_rounds.2.1 18 = .ok (.getfield 60, 3) := by decide +kernel
theorem d_S_rounds_21 : decode Y_S_rounds.2.1 21 = .ok (.getfield 211, 3) := by decide +kernel
theorem d_S_rounds_24 : decode Y_S_rounds.2.1 24 = .ok (.invokevirtual 238, 3) := by decide +kernel
theorem d_S_rounds_27 : decode Y_S_rounds.2.1 27 = .ok (.istore_n 2, 1) := by decide +kernel
theorem d_S_rounds_28 : decode Y_S_rounds.2.1 28 = .ok (.iload_n 2, 1) := by decide +kernel
theorem d_S_rounds_29 : decode Y_S_rounds.2.1 29 = .ok (.ifCond .eq 70, 3) := by decide +kernel
theorem d_S_rounds_32 : decode Y_S_rounds.2.1 32 = .ok (.iload_n 1, 1) := by decide +kernel
theorem d_S_rounds_33 : decode Y_S_rounds.2.1 33 = .ok (.ldc 255, 2) := by decide +kernel
theorem d_S_rounds_35 : decode Y_S_rounds.2.1 35 = .ok (.if_icmp .ge 64, 3) := by decide +kernel
theorem d_S_rounds_38 : decode Y_S_rounds.2.1 38 = .ok (.iconst 0, 1) := by decide +kernel
theorem d_S_rounds_39 : decode Y_S_rounds.2.1 39 = .ok (.istore_n 3, 1) := by decide +kernel
theorem d_S_rounds_40 : decode Y_S_rounds.2.1 40 = .ok (.iload_n 3, 1) := by decide +kernel
theorem d_S_rounds_41 : decode Y_S_rounds.2.1 41 = .ok (.aload_n 0, 1) := by decide +kernel
theorem d_S_rounds_42 : decode Y_S_rounds.2.1 42 = .ok (.getfield 27, 3) := by decide +kernel
theorem d_S_rounds_45 : decode Y_S_rounds.2.1 45 = .ok (.getfield 119, 3) := by decide +kernel
theorem d_S_rounds_48 : decode Y_S_rounds.2.1 48 = .ok (.if_icmp .ge 30, 3) := by decide +kernel
theorem d_S_rounds_51 : decode Y_S_rounds.2.1 51 = .ok (.iload_n 2, 1) := by decide +kernel
theorem d_S_rounds_52 : decode Y_S_rounds.2.1 52 = .ok (.iload_n 3, 1) := by decide +kernel
theorem d_S_rounds_53 : decode Y_S_rounds.2.1 53 = .ok (.ishr, 1) := by decide +kernel
theorem d_S_rounds_54 : decode Y_S_rounds.2.1 54 = .ok (.iconst 1, 1) := by decide +kernel
theorem d_S_rounds_55 : decode Y_S_rounds.2.1 55 = .ok (.iand, 1) := by decide +kernel
theorem d_S_rounds_56 : decode Y_S_rounds.2.1 56 = .ok (.ifCond .eq 16, 3) := by decide +kernel
theorem d_S_rounds_59 : decode Y_S_rounds.2.1 59 = .ok (.aload_n 0, 1) := by decide +kernel
theorem d_S_rounds_60 : decode Y_S_rounds.2.1 60 = .ok (.getfield 60, 3) := by decide +kernel
theorem d_S_rounds_63 : decode Y_S_rounds.2.1 63 = .ok (.aload_n 0, 1) := by decide +kernel
theorem d_S_rounds_64 : decode Y_S_rounds.2.1 64 = .ok (.getfield 27, 3) := by decide +kernel
theorem d_S_rounds_67 : decode Y_S_rounds.2.1 67 = .ok (.iload_n 3, 1) := by decide +kernel
theorem d_S_rounds_68 : decode Y_S_rounds.2.1 68 = .ok (.iconst 1, 1) := by decide +kernel
theorem d_S_rounds_69 : decode Y_S_rounds.2.1 69 = .ok (.invokevirtual 217, 3) := by decide +kernel
theorem d_S_rounds_72 : decode Y_S_rounds.2.1 72 = .ok (.iinc 3 1, 3) := by decide +kernel
theorem d_S_rounds_75 : decode Y_S_rounds.2.1 75 = .ok (.goto (-35), 3) := by decide +kernel
theorem d_S_rounds_78 : decode Y_S_rounds.2.1 78 = .ok (.iinc 1 1, 3) := by decide +kernel
theorem d_S_rounds_81 : decode Y_S_rounds.2.1 81 = .ok (.aload_n 0, 1) := by decide +kernel
theorem d_S_rounds_82 : decode Y_S_rounds.2.1 82 = .ok (.getfield 27, 3) := by decide +kernel
theorem d_S_rounds_85 : decode Y_S_rounds.2.1 85 = .ok (.aload_n 0, 1) := by decide +kernel
theorem d_S_rounds_86 : decode Y_S_rounds.2.1 86 = .ok (.getfield 60, 3) := by decide +kernel
theorem d_S_rounds_89 : decode Y_S_rounds.2.1 89 = .ok (.getfield 211, 3) := by decide +kernel
theorem d_S_rounds_92 : decode Y_S_rounds.2.1 92 = .ok (.invokevirtual 238, 3) := by decide +kernel
theorem d_S_rounds_95 : decode Y_S_rounds.2.1 95 = .ok (.istore_n 2, 1) := by decide +kernel
theorem d_S_rounds_96 : decode Y_S_rounds.2.1 96 = .ok (.goto (-68), 3) := by decide +kernel
theorem d_S_rounds_99 : decode Y_S_rounds.2.1 99 = .ok (.iload_n 1, 1) := by decide +kernel
theorem d_S_rounds_100 : decode Y_S_rounds.2.1 100 = .ok (.ireturn, 1) := by decide +kernel
theorem e_S_rounds {l : Launch} {G : GT} {d : Nat} {P : Int → MM → Prop} {m : MM}   (H : wfM m → ∃ (e1 : Nat) (P2 : MM → Prop), e1 < d ∧ CV l G Y_Sand_take e1 [.inr (.inr 32), .inr (.inr 25)] m P2 ∧ (∀ m8, P2 m8 → wfM m8 → (∃ b12 : Nat, m8 0 5 = b12 ∧ isB b12 ∧ (∃ (e16 : Nat) (P17 : Int → MM → Prop), e16 < d ∧ CI l G Y_Board_overfull e16 [.inr (.inr b12), .inr (.inr 33)] m8 P17 ∧ (∀ z22 m23, P17 z22 m23 → inR z22 → wfM m23 → (Wq l G false Y_S_rounds d (QI P) 28 [(0, .inr (.inr 0)), (1, .inl 0), (2, .inl z22)] [] m23)))))) : CI l G Y_S_rounds d [.inr (.inr 0)] m P := by
  refine CI.of [(0, .inr (.inr 0))] k_S_rounds.1 (Nat.le_of_ble_eq_true rfl) rfl (Wp.wf (fun hw _ hl hs => ?_))
  have H0 := H hw
  refine Wp.aload_n 0 0 d_S_rounds_0 rfl rfl ?_
  refine Wp.getP 32 d_S_rounds_1 fl_S_60 rfl rfl rfl ?_
  refine Wp.aload_n 0 0 d_S_rounds_4 rfl rfl ?_
  refine Wp.getP 25 d_S_rounds_5 fl_S_34 rfl rfl rfl ?_
  obtain ⟨e1, P2, hd3, ho4, H5⟩ := H0
  refine Wq.VV (st := []) [.inr (.inr 25)] d_S_rounds_8 k_Sand_take ml_S_199 rfl rfl rfl (fun h => by cases h) (Nat.le_of_ble_eq_true rfl) hd3 ho4 (fun m8 hp9 hw11 => ?_)
  have H6 := H5 m8 hp9 hw11
  refine Wp.iconst d_S_rounds_11 (by decide) ?_
  refine Wp.istore_n 1 [(0, .inr (.inr 0)), (1, .inl 0)] d_S_rounds_12 rfl (by decide) rfl ?_
  refine Wp.aload_n 0 0 d_S_rounds_13 rfl rfl ?_
  obtain ⟨b12, hb13, hB14, H15⟩ := H6
  refine Wp.getR b12 d_S_rounds_14 fl_S_27 rfl (Or.inl rfl) rfl hb13 ?_
  refine Wp.aload_n 0 0 d_S_rounds_17 rfl rfl ?_
  refine Wp.getP 32 d_S_rounds_18 fl_S_60 rfl rfl rfl ?_
  refine Wp.getP 33 d_S_rounds_21 fl_S_211 rfl rfl rfl ?_
  obtain ⟨e16, P17, hd18, ho19, H20⟩ := H15
  refine Wq.VI (st := []) [.inr (.inr 33)] d_S_rounds_24 k_Board_overfull ml_S_238 rfl (isB_lay hB14) rfl (fun h => by cases h) (Nat.le_of_ble_eq_true rfl) hd18 ho19 (fun z22 m23 hp24 hz25 hw26 => ?_)
  have H21 := H20 z22 m23 hp24 hz25 hw26
  refine Wp.istore_n 2 [(0, .inr (.inr 0)), (1, .inl 0), (2, .inl z22)] d_S_rounds_27 rfl (by decide) rfl ?_
  exact H21
theorem s_S_rounds_28 {l : Launch} {G : GT} {d : Nat} {P : Int → MM → Prop} {m : MM} (x1 : Int) (x2 : Int)  (H : wfM m → inR x1 → inR x2 → (x2 = 0 → (P x1 m)) ∧ (¬ (x2 = 0) → ((x1 ≥ 1000000 → (P x1 m)) ∧ (¬ (x1 ≥ 1000000) → (Wq l G false Y_S_rounds d (QI P) 40 [(0, .inr (.inr 0)), (1, .inl x1), (2, .inl x2), (3, .inl 0)] [] m))))) : Wq l G false Y_S_rounds d (QI P) 28 [(0, .inr (.inr 0)), (1, .inl x1), (2, .inl x2)] [] m := by
  refine Wp.wf (fun hw _ hl hs => ?_)
  have H0 := H hw (hl _ (List.mem_of_getElem? (i := 1) rfl)) (hl _ (List.mem_of_getElem? (i := 2) rfl))
  refine Wp.iload_n 2 2 d_S_rounds_28 rfl rfl ?_
  obtain ⟨H2, H3⟩ := H0
  refine Wp.if_eq 99 d_S_rounds_29 (by decide) (fun c1 => ?_) (fun c1 => ?_)
  · have H4 := H2 c1
    refine Wp.iload_n 1 1 d_S_rounds_99 rfl rfl ?_
    exact Wq.iret d_S_rounds_100 rfl H4
  · have H5 := H3 c1
    refine Wp.iload_n 1 1 d_S_rounds_32 rfl rfl ?_
    refine Wp.ldc (z := 1000000) d_S_rounds_33 kc_S_255 (by decide) (by decide) ?_
    obtain ⟨H7, H8⟩ := H5
    refine Wp.icmp_ge 99 d_S_rounds_35 (by decide) (fun c6 => ?_) (fun c6 => ?_)
    · have H9 := H7 c6
      refine Wp.iload_n 1 1 d_S_rounds_99 rfl rfl ?_
      exact Wq.iret d_S_rounds_100 rfl H9
    · have H10 := H8 c6
      refine Wp.iconst d_S_rounds_38 (by decide) ?_
      refine Wp.istore_n 3 [(0, .inr (.inr 0)), (1, .inl x1), (2, .inl x2), (3, .inl 0)] d_S_rounds_39 rfl (by decide) rfl ?_
      exact H10
theorem s_S_rounds_40 {l : Launch} {G : GT} {d : Nat} {P : Int → MM → Prop} {m : MM} (x1 : Int) (x2 : Int) (x3 : Int)  (H : wfM m → inR x1 → inR x2 → inR x3 → ∃ b1 : Nat, m 0 5 = b1 ∧ isB b1 ∧ ((x3 ≥ (m b1 0) → ((inR (x1 + 1)) ∧ (∃ b12 : Nat, m 0 5 = b12 ∧ isB b12 ∧ (∃ (e16 : Nat) (P17 : Int → MM → Prop), e16 < d ∧ CI l G Y_Board_overfull e16 [.inr (.inr b12), .inr (.inr 33)] m P17 ∧ (∀ z22 m23, P17 z22 m23 → inR z22 → wfM m23 → (Wq l G false Y_S_rounds d (QI P) 28 [(0, .inr (.inr 0)), (1, .inl (x1 + 1)), (2, .inl z22)] [] m23)))))) ∧ (¬ (x3 ≥ (m b1 0)) → (((bAnd (bShr x2 x3) 1) = 0 → ((inR (x3 + 1)) ∧ (Wq l G false Y_S_rounds d (QI P) 40 [(0, .inr (.inr 0)), (1, .inl x1), (2, .inl x2), (3, .inl (x3 + 1))] [] m))) ∧ (¬ ((bAnd (bShr x2 x3) 1) = 0) → (∃ b34 : Nat, m 0 5 = b34 ∧ isB b34 ∧ (∃ (e38 : Nat) (P39 : MM → Prop), e38 < d ∧ CV l G Y_Sand_tip e38 [.inr (.inr 32), .inr (.inr b34), .inl x3, .inl 1] m P39 ∧ (∀ m45, P39 m45 → wfM m45 → ((inR (x3 + 1)) ∧ (Wq l G false Y_S_rounds d (QI P) 40 [(0, .inr (.inr 0)), (1, .inl x1), (2, .inl x2), (3, .inl (x3 + 1))] [] m45)))))))))) : Wq l G false Y_S_rounds d (QI P) 40 [(0, .inr (.inr 0)), (1, .inl x1), (2, .inl x2), (3, .inl x3)] [] m := by
  refine Wp.wf (fun hw _ hl hs => ?_)
  have H0 := H hw (hl _ (List.mem_of_getElem? (i := 1) rfl)) (hl _ (List.mem_of_getElem? (i := 2) rfl)) (hl _ (List.mem_of_getElem? (i := 3) rfl))
  refine Wp.iload_n 3 3 d_S_rounds_40 rfl rfl ?_
  refine Wp.aload_n 0 0 d_S_rounds_41 rfl rfl ?_
  obtain ⟨b1, hb2, hB3, H4⟩ := H0
  refine Wp.getR b1 d_S_rounds_42 fl_S_27 rfl (Or.inl rfl) rfl hb2 ?_
  refine Wq.getI 0 rfl d_S_rounds_45 fl_S_119 (isB_lay hB3) (Or.inl rfl) ?_
  obtain ⟨H6, H7⟩ := H4
  refine Wp.icmp_ge 78 d_S_rounds_48 (by decide) (fun c5 => ?_) (fun c5 => ?_)
  · have H8 := H6 c5
    obtain ⟨s10, H11⟩ := H8
    refine Wp.iinc 1 1 [(0, .inr (.inr 0)), (1, .inl (x1 + 1)), (2, .inl x2), (3, .inl x3)] d_S_rounds_78 rfl s10 (by decide) rfl ?_
    refine Wp.aload_n 0 0 d_S_rounds_81 rfl rfl ?_
    obtain ⟨b12, hb13, hB14, H15⟩ := H11
    refine Wp.getR b12 d_S_rounds_82 fl_S_27 rfl (Or.inl rfl) rfl hb13 ?_
    refine Wp.aload_n 0 0 d_S_rounds_85 rfl rfl ?_
    refine Wp.getP 32 d_S_rounds_86 fl_S_60 rfl rfl rfl ?_
    refine Wp.getP 33 d_S_rounds_89 fl_S_211 rfl rfl rfl ?_
    obtain ⟨e16, P17, hd18, ho19, H20⟩ := H15
    refine Wq.VI (st := []) [.inr (.inr 33)] d_S_rounds_92 k_Board_overfull ml_S_238 rfl (isB_lay hB14) rfl (fun h => by cases h) (Nat.le_of_ble_eq_true rfl) hd18 ho19 (fun z22 m23 hp24 hz25 hw26 => ?_)
    have H21 := H20 z22 m23 hp24 hz25 hw26
    refine Wp.istore_n 2 [(0, .inr (.inr 0)), (1, .inl (x1 + 1)), (2, .inl z22), (3, .inl x3)] d_S_rounds_95 rfl (by decide) rfl ?_
    refine Wp.goto 28 d_S_rounds_96 (by decide) ?_
    refine Wp.pick [0, 1, 2] [(0, .inr (.inr 0)), (1, .inl (x1 + 1)), (2, .inl z22)] rfl ?_
    exact H21
  · have H9 := H7 c5
    refine Wp.iload_n 2 2 d_S_rounds_51 rfl rfl ?_
    refine Wp.iload_n 3 3 d_S_rounds_52 rfl rfl ?_
    refine Wp.ishr d_S_rounds_53 ?_
    refine Wp.iconst d_S_rounds_54 (by decide) ?_
    refine Wp.iand d_S_rounds_55 ?_
    obtain ⟨H28, H29⟩ := H9
    refine Wp.if_eq 72 d_S_rounds_56 (by decide) (fun c27 => ?_) (fun c27 => ?_)
    · have H30 := H28 c27
      obtain ⟨s32, H33⟩ := H30
      refine Wp.iinc 3 3 [(0, .inr (.inr 0)), (1, .inl x1), (2, .inl x2), (3, .inl (x3 + 1))] d_S_rounds_72 rfl s32 (by decide) rfl ?_
      refine Wp.goto 40 d_S_rounds_75 (by decide) ?_
      exact H33
    · have H31 := H29 c27
      refine Wp.aload_n 0 0 d_S_rounds_59 rfl rfl ?_
      refine Wp.getP 32 d_S_rounds_60 fl_S_60 rfl rfl rfl ?_
      refine Wp.aload_n 0 0 d_S_rounds_63 rfl rfl ?_
      obtain ⟨b34, hb35, hB36, H37⟩ := H31
      refine Wp.getR b34 d_S_rounds_64 fl_S_27 rfl (Or.inl rfl) rfl hb35 ?_
      refine Wp.iload_n 3 3 d_S_rounds_67 rfl rfl ?_
      refine Wp.iconst d_S_rounds_68 (by decide) ?_
      obtain ⟨e38, P39, hd40, ho41, H42⟩ := H37
      refine Wq.VV (st := []) [.inr (.inr b34), .inl x3, .inl 1] d_S_rounds_69 k_Sand_tip ml_S_217 rfl rfl rfl (fun h => by cases h) (Nat.le_of_ble_eq_true rfl) hd40 ho41 (fun m45 hp46 hw48 => ?_)
      have H43 := H42 m45 hp46 hw48
      obtain ⟨s49, H50⟩ := H43
      refine Wp.iinc 3 3 [(0, .inr (.inr 0)), (1, .inl x1), (2, .inl x2), (3, .inl (x3 + 1))] d_S_rounds_72 rfl s49 (by decide) rfl ?_
      refine Wp.goto 40 d_S_rounds_75 (by decide) ?_
      exact H50
theorem d_S_slide_0 : decode Y_S_slide.2.1 0 = .ok (.aload_n 0, 1) := by decide +kernel
theorem d_S_slide_1 : decode Y_S_slide.2.1 1 = .ok (.getfield 27, 3) := by decide +kernel
theorem d_S_slide_4 : decode Y_S_slide.2.1 4 = .ok (.iload_n 1, 1) := by decide +kernel
theorem d_S_slide_5 : decode Y_S_slide.2.1 5 = .ok (.invokevirtual 142, 3) := by decide +kernel
theorem d_S_slide_8 : decode Y_S_slide.2.1 8 = .ok (.ifCond .eq 12, 3) := by decide +kernel
theorem d_S_slide_11 : decode Y_S_slide.2.1 11 = .ok (.iload_n 2, 1) := by decide +kernel
theorem d_S_slide_12 : decode Y_S_slide.2.1 12 = .ok (.ifCond .lt 8, 3) := by decide +kernel
theorem d_S_slide_15 : decode Y_S_slide.2.1 15 = .ok (.iload_n 2, 1) := by decide +kernel
theorem d_S_slide_16 : decode Y_S_slide.2.1 16 = .ok (.iconst 2, 1) := by decide +kernel
theorem d_S_slide_17 : decode Y_S_slide.2.1 17 = .ok (.if_icmp .le 5, 3) := by decide +kernel
theorem d_S_slide_20 : decode Y_S_slide.2.1 20 = .ok (.iconst (-1), 1) := by decide +kernel
theorem d_S_slide_21 : decode Y_S_slide.2.1 21 = .ok (.ireturn, 1) := by decide +kernel
theorem d_S_slide_22 : decode Y_S_slide.2.1 22 = .ok (.aload_n 0, 1) := by decide +kernel
theorem d_S_slide_23 : decode Y_S_slide.2.1 23 = .ok (.invokevirtual 241, 3) := by decide +kernel
theorem d_S_slide_26 : decode Y_S_slide.2.1 26 = .ok (.aload_n 0, 1) := by decide +kernel
theorem d_S_slide_27 : decode Y_S_slide.2.1 27 = .ok (.iload_n 1, 1) := by decide +kernel
theorem d_S_slide_28 : decode Y_S_slide.2.1 28 = .ok (.invokevirtual 259, 3) := by decide +kernel
theorem d_S_slide_31 : decode Y_S_slide.2.1 31 = .ok (.iload_n 2, 1) := by decide +kernel
theorem d_S_slide_32 : decode Y_S_slide.2.1 32 = .ok (.ifCond .ne 11, 3) := by decide +kernel
theorem d_S_slide_35 : decode Y_S_slide.2.1 35 = .ok (.aload_n 0, 1) := by decide +kernel
theorem d_S_slide_36 : decode Y_S_slide.2.1 36 = .ok (.getfield 64, 3) := by decide +kernel
theorem d_S_slide_39 : decode Y_S_slide.2.1 39 = .ok (.getfield 208, 3) := by decide +kernel
theorem d_S_slide_42 : decode Y_S_slide.2.1 42 = .ok (.ireturn, 1) := by decide +kernel
theorem d_S_slide_43 : decode Y_S_slide.2.1 43 = .ok (.iload_n 2, 1) := by decide +kernel
theorem d_S_slide_44 : decode Y_S_slide.2.1 44 = .ok (.iconst 1, 1) := by decide +kernel
theorem d_S_slide_45 : decode Y_S_slide.2.1 45 = .ok (.if_icmp .ne 20, 3) := by decide +kernel
theorem d_S_slide_48 : decode Y_S_slide.2.1 48 = .ok (.aload_n 0, 1) := by decide +kernel
theorem d_S_slide_49 : decode Y_S_slide.2.1 49 = .ok (.getfield 64, 3) := by decide +kernel
theorem d_S_slide_52 : decode Y_S_slide.2.1 52 = .ok (.aload_n 0, 1) := by decide +kernel
theorem d_S_slide_53 : decode Y_S_slide.2.1 53 = .ok (.getfield 27, 3) := by decide +kernel
theorem d_S_slide_56 : decode Y_S_slide.2.1 56 = .ok (.getfield 119, 3) := by decide +kernel
theorem d_S_slide_59 : decode Y_S_slide.2.1 59 = .ok (.invokevirtual 262, 3) := by decide +kernel
theorem d_S_slide_62 : decode Y_S_slide.2.1 62 = .ok (.goto 10, 3) := by decide +kernel
theorem d_S_slide_65 : decode Y_S_slide.2.1 65 = .ok (.aload_n 0, 1) := by decide +kernel
theorem d_S_slide_66 : decode Y_S_slide.2.1 66 = .ok (.getfield 64, 3) := by decide +kernel
theorem d_S_slide_69 : decode Y_S_slide.2.1 69 = .ok (.getfield 214, 3) := by decide +kernel
theorem d_S_slide_72 : decode Y_S_slide.2.1 72 = .ok (.ireturn, 1) := by decide +kernel
theorem e_S_slide {l : Launch} {G : GT} {d : Nat} {P : Int → MM → Prop} {m : MM} (x1 : Int) (x2 : Int)  (H : wfM m → inR x1 → inR x2 → ∃ b1 : Nat, m 0 5 = b1 ∧ isB b1 ∧ (∃ (e5 : Nat) (P6 : Int → MM → Prop), e5 < d ∧ CI l G Y_Board_has e5 [.inr (.inr b1), .inl x1] m P6 ∧ (∀ z11 m12, P6 z11 m12 → inR z11 → wfM m12 → ((z11 = 0 → (P (-1) m12)) ∧ (¬ (z11 = 0) → ((x2 < 0 → (P (-1) m12)) ∧ (¬ (x2 < 0) → ((x2 ≤ 2 → (∃ (e31 : Nat) (P32 : MM → Prop), e31 < d ∧ CV l G Y_S_settleAhead e31 [.inr (.inr 0)] m12 P32 ∧ (∀ m38, P32 m38 → wfM m38 → (∃ (e42 : Nat) (P43 : MM → Prop), e42 < d ∧ CV l G Y_S_slideFrom e42 [.inr (.inr 0), .inl x1] m38 P43 ∧ (∀ m49, P43 m49 → wfM m49 → ((x2 ≠ 0 → ((x2 ≠ 1 → (P (m49 35 3) m49)) ∧ (¬ (x2 ≠ 1) → (∃ b63 : Nat, m49 0 5 = b63 ∧ isB b63 ∧ (∃ (e67 : Nat) (P68 : Int → MM → Prop), e67 < d ∧ CI l G Y_Sand_toppled e67 [.inr (.inr 35), .inl (m49 b63 0)] m49 P68 ∧ (∀ z73 m74, P68 z73 m74 → inR z73 → wfM m74 → (P z73 m74))))))) ∧ (¬ (x2 ≠ 0) → (P (m49 35 2) m49)))))))) ∧ (¬ (x2 ≤ 2) → (P (-1) m12)))))))))) : CI l G Y_S_slide d [.inr (.inr 0), .inl x1, .inl x2] m P := by
  refine CI.of [(0, .inr (.inr 0)), (1, .inl x1), (2, .inl x2)] k_S_slide.1 (Nat.le_of_ble_eq_true rfl) rfl (Wp.wf (fun hw _ hl hs => ?_))
  have H0 := H hw (hl _ (List.mem_of_getElem? (i := 1) rfl)) (hl _ (List.mem_of_getElem? (i := 2) rfl))
  refine Wp.aload_n 0 0 d_S_slide_0 rfl rfl ?_
  obtain ⟨b1, hb2, hB3, H4⟩ := H0
  refine Wp.getR b1 d_S_slide_1 fl_S_27 rfl (Or.inl rfl) rfl hb2 ?_
  refine Wp.iload_n 1 1 d_S_slide_4 rfl rfl ?_
  obtain ⟨e5, P6, hd7, ho8, H9⟩ := H4
  refine Wq.VI (st := []) [.inl x1] d_S_slide_5 k_Board_has ml_S_142 rfl (isB_lay hB3) rfl (fun h => by cases h) (Nat.le_of_ble_eq_true rfl) hd7 ho8 (fun z11 m12 hp13 hz14 hw15 => ?_)
  have H10 := H9 z11 m12 hp13 hz14 hw15
  obtain ⟨H17, H18⟩ := H10
  refine Wp.if_eq 20 d_S_slide_8 (by decide) (fun c16 => ?_) (fun c16 => ?_)
  · have H19 := H17 c16
    refine Wp.iconst d_S_slide_20 (by decide) ?_
    exact Wq.iret d_S_slide_21 rfl H19
  · have H20 := H18 c16
    refine Wp.iload_n 2 2 d_S_slide_11 rfl rfl ?_
    obtain ⟨H22, H23⟩ := H20
    refine Wp.if_lt 20 d_S_slide_12 (by decide) (fun c21 => ?_) (fun c21 => ?_)
    · have H24 := H22 c21
      refine Wp.iconst d_S_slide_20 (by decide) ?_
      exact Wq.iret d_S_slide_21 rfl H24
    · have H25 := H23 c21
      refine Wp.iload_n 2 2 d_S_slide_15 rfl rfl ?_
      refine Wp.iconst d_S_slide_16 (by decide) ?_
      obtain ⟨H27, H28⟩ := H25
      refine Wp.icmp_le 22 d_S_slide_17 (by decide) (fun c26 => ?_) (fun c26 => ?_)
      · have H29 := H27 c26
        refine Wp.aload_n 0 0 d_S_slide_22 rfl rfl ?_
        obtain ⟨e31, P32, hd33, ho34, H35⟩ := H29
        refine Wq.VV (st := []) [] d_S_slide_23 k_S_settleAhead ml_S_241 rfl rfl rfl (fun h => by cases h) (Nat.le_of_ble_eq_true rfl) hd33 ho34 (fun m38 hp39 hw41 => ?_)
        have H36 := H35 m38 hp39 hw41
        refine Wp.aload_n 0 0 d_S_slide_26 rfl rfl ?_
        refine Wp.iload_n 1 1 d_S_slide_27 rfl rfl ?_
        obtain ⟨e42, P43, hd44, ho45, H46⟩ := H36
        refine Wq.VV (st := []) [.inl x1] d_S_slide_28 k_S_slideFrom ml_S_259 rfl rfl rfl (fun h => by cases h) (Nat.le_of_ble_eq_true rfl) hd44 ho45 (fun m49 hp50 hw52 => ?_)
        have H47 := H46 m49 hp50 hw52
        refine Wp.iload_n 2 2 d_S_slide_31 rfl rfl ?_
        obtain ⟨H54, H55⟩ := H47
        refine Wp.if_ne 43 d_S_slide_32 (by decide) (fun c53 => ?_) (fun c53 => ?_)
        · have H56 := H54 c53
          refine Wp.iload_n 2 2 d_S_slide_43 rfl rfl ?_
          refine Wp.iconst d_S_slide_44 (by decide) ?_
          obtain ⟨H59, H60⟩ := H56
          refine Wp.icmp_ne 65 d_S_slide_45 (by decide) (fun c58 => ?_) (fun c58 => ?_)
          · have H61 := H59 c58
            refine Wp.aload_n 0 0 d_S_slide_65 rfl rfl ?_
            refine Wp.getP 35 d_S_slide_66 fl_S_64 rfl rfl rfl ?_
            refine Wq.getI 3 rfl d_S_slide_69 fl_S_214 rfl (Or.inl rfl) ?_
            exact Wq.iret d_S_slide_72 rfl H61
          · have H62 := H60 c58
            refine Wp.aload_n 0 0 d_S_slide_48 rfl rfl ?_
            refine Wp.getP 35 d_S_slide_49 fl_S_64 rfl rfl rfl ?_
            refine Wp.aload_n 0 0 d_S_slide_52 rfl rfl ?_
            obtain ⟨b63, hb64, hB65, H66⟩ := H62
            refine Wp.getR b63 d_S_slide_53 fl_S_27 rfl (Or.inl rfl) rfl hb64 ?_
            refine Wq.getI 0 rfl d_S_slide_56 fl_S_119 (isB_lay hB65) (Or.inl rfl) ?_
            obtain ⟨e67, P68, hd69, ho70, H71⟩ := H66
            refine Wq.VI (st := []) [.inl (m49 b63 0)] d_S_slide_59 k_Sand_toppled ml_S_262 rfl rfl rfl (fun h => by cases h) (Nat.le_of_ble_eq_true rfl) hd69 ho70 (fun z73 m74 hp75 hz76 hw77 => ?_)
            have H72 := H71 z73 m74 hp75 hz76 hw77
            refine Wp.goto 72 d_S_slide_62 (by decide) ?_
            exact Wq.iret d_S_slide_72 rfl H72
        · have H57 := H55 c53
          refine Wp.aload_n 0 0 d_S_slide_35 rfl rfl ?_
          refine Wp.getP 35 d_S_slide_36 fl_S_64 rfl rfl rfl ?_
          refine Wq.getI 2 rfl d_S_slide_39 fl_S_208 rfl (Or.inl rfl) ?_
          exact Wq.iret d_S_slide_42 rfl H57
      · have H30 := H28 c26
        refine Wp.iconst d_S_slide_20 (by decide) ?_
        exact Wq.iret d_S_slide_21 rfl H30
theorem d_S_slideFrom_0 : decode Y_S_slideFrom.2.1 0 = .ok (.aload_n 0, 1) := by decide +kernel
theorem d_S_slideFrom_1 : decode Y_S_slideFrom.2.1 1 = .ok (.getfield 64, 3) := by decide +kernel
theorem d_S_slideFrom_4 : decode Y_S_slideFrom.2.1 4 = .ok (.aload_n 0, 1) := by decide +kernel
theorem d_S_slideFrom_5 : decode Y_S_slideFrom.2.1 5 = .ok (.getfield 60, 3) := by decide +kernel
theorem d_S_slideFrom_8 : decode Y_S_slideFrom.2.1 8 = .ok (.getfield 211, 3) := by decide +kernel
theorem d_S_slideFrom_11 : decode Y_S_slideFrom.2.1 11 = .ok (.invokevirtual 199, 3) := by decide +kernel
theorem d_S_slideFrom_14 : decode Y_S_slideFrom.2.1 14 = .ok (.aload_n 0, 1) := by decide +kernel
theorem d_S_slideFrom_15 : decode Y_S_slideFrom.2.1 15 = .ok (.getfield 64, 3) := by decide +kernel
theorem d_S_slideFrom_18 : decode Y_S_slideFrom.2.1 18 = .ok (.iload_n 1, 1) := by decide +kernel
theorem d_S_slideFrom_19 : decode Y_S_slideFrom.2.1 19 = .ok (.iconst 1, 1) := by decide +kernel
theorem d_S_slideFrom_20 : decode Y_S_slideFrom.2.1 20 = .ok (.invokevirtual 256, 3) := by decide +kernel
theorem d_S_slideFrom_23 : decode Y_S_slideFrom.2.1 23 = .ok (.aload_n 0, 1) := by decide +kernel
theorem d_S_slideFrom_24 : decode Y_S_slideFrom.2.1 24 = .ok (.getfield 64, 3) := by decide +kernel
theorem d_S_slideFrom_27 : decode Y_S_slideFrom.2.1 27 = .ok (.aload_n 0, 1) := by decide +kernel
theorem d_S_slideFrom_28 : decode Y_S_slideFrom.2.1 28 = .ok (.getfield 27, 3) := by decide +kernel
theorem d_S_slideFrom_31 : decode Y_S_slideFrom.2.1 31 = .ok (.invokevirtual 202, 3) := by decide +kernel
theorem d_S_slideFrom_34 : decode Y_S_slideFrom.2.1 34 = .ok (.return_, 1) := by decide +kernel
theorem e_S_slideFrom {l : Launch} {G : GT} {d : Nat} {P : MM → Prop} {m : MM} (x1 : Int)  (H : wfM m → inR x1 → ∃ (e1 : Nat) (P2 : MM → Prop), e1 < d ∧ CV l G Y_Sand_take e1 [.inr (.inr 35), .inr (.inr 33)] m P2 ∧ (∀ m8, P2 m8 → wfM m8 → (∃ (e12 : Nat) (P13 : MM → Prop), e12 < d ∧ CV l G Y_Sand_put e12 [.inr (.inr 35), .inl x1, .inl 1] m8 P13 ∧ (∀ m19, P13 m19 → wfM m19 → (∃ b23 : Nat, m19 0 5 = b23 ∧ isB b23 ∧ (∃ (e27 : Nat) (P28 : MM → Prop), e27 < d ∧ CV l G Y_Sand_calm e27 [.inr (.inr 35), .inr (.inr b23)] m19 P28 ∧ (∀ m34, P28 m34 → wfM m34 → (P m34)))))))) : CV l G Y_S_slideFrom d [.inr (.inr 0), .inl x1] m P := by
  refine CV.of [(0, .inr (.inr 0)), (1, .inl x1)] k_S_slideFrom.1 (Nat.le_of_ble_eq_true rfl) rfl (Wp.wf (fun hw _ hl hs => ?_))
  have H0 := H hw (hl _ (List.mem_of_getElem? (i := 1) rfl))
  refine Wp.aload_n 0 0 d_S_slideFrom_0 rfl rfl ?_
  refine Wp.getP 35 d_S_slideFrom_1 fl_S_64 rfl rfl rfl ?_
  refine Wp.aload_n 0 0 d_S_slideFrom_4 rfl rfl ?_
  refine Wp.getP 32 d_S_slideFrom_5 fl_S_60 rfl rfl rfl ?_
  refine Wp.getP 33 d_S_slideFrom_8 fl_S_211 rfl rfl rfl ?_
  obtain ⟨e1, P2, hd3, ho4, H5⟩ := H0
  refine Wq.VV (st := []) [.inr (.inr 33)] d_S_slideFrom_11 k_Sand_take ml_S_199 rfl rfl rfl (fun h => by cases h) (Nat.le_of_ble_eq_true rfl) hd3 ho4 (fun m8 hp9 hw11 => ?_)
  have H6 := H5 m8 hp9 hw11
  refine Wp.aload_n 0 0 d_S_slideFrom_14 rfl rfl ?_
  refine Wp.getP 35 d_S_slideFrom_15 fl_S_64 rfl rfl rfl ?_
  refine Wp.iload_n 1 1 d_S_slideFrom_18 rfl rfl ?_
  refine Wp.iconst d_S_slideFrom_19 (by decide) ?_
  obtain ⟨e12, P13, hd14, ho15, H16⟩ := H6
  refine Wq.VV (st := []) [.inl x1, .inl 1] d_S_slideFrom_20 k_Sand_put ml_S_256 rfl rfl rfl (fun h => by cases h) (Nat.le_of_ble_eq_true rfl) hd14 ho15 (fun m19 hp20 hw22 => ?_)
  have H17 := H16 m19 hp20 hw22
  refine Wp.aload_n 0 0 d_S_slideFrom_23 rfl rfl ?_
  refine Wp.getP 35 d_S_slideFrom_24 fl_S_64 rfl rfl rfl ?_
  refine Wp.aload_n 0 0 d_S_slideFrom_27 rfl rfl ?_
  obtain ⟨b23, hb24, hB25, H26⟩ := H17
  refine Wp.getR b23 d_S_slideFrom_28 fl_S_27 rfl (Or.inl rfl) rfl hb24 ?_
  obtain ⟨e27, P28, hd29, ho30, H31⟩ := H26
  refine Wq.VV (st := []) [.inr (.inr b23)] d_S_slideFrom_31 k_Sand_calm ml_S_202 rfl rfl rfl (fun h => by cases h) (Nat.le_of_ble_eq_true rfl) hd29 ho30 (fun m34 hp35 hw37 => ?_)
  have H32 := H31 m34 hp35 hw37
  exact Wq.vret d_S_slideFrom_34 rfl H32
theorem d_S_steepest_0 : decode Y_S_steepest.2.1 0 = .ok (.aload_n 0, 1) := by decide +kernel
theorem d_S_steepest_1 : decode Y_S_steepest.2.1 1 = .ok (.invokevirtual 241, 3) := by decide +kernel
theorem d_S_steepest_4 : decode Y_S_steepest.2.1 4 = .ok (.iconst (-1), 1) := by decide +kernel
theorem d_S_steepest_5 : decode Y_S_steepest.2.1 5 = .ok (.istore_n 1, 1) := by decide +kernel
theorem d_S_steepest_6 : decode Y_S_steepest.2.1 6 = .ok (.iconst (-1), 1) := by decide +kernel
theorem d_S_steepest_7 : decode Y_S_steepest.2.1 7 = .ok (.istore_n 2, 1) := by decide +kernel
theorem d_S_steepest_8 : decode Y_S_steepest.2.1 8 = .ok (.iconst 0, 1) := by decide +kernel
theorem d_S_steepest_9 : decode Y_S_steepest.2.1 9 = .ok (.istore_n 3, 1) := by decide +kernel
theorem d_S_steepest_10 : decode Y_S_steepest.2.1 10 = .ok (.iload_n 3, 1) := by decide +kernel
theorem d_S_steepest_11 : decode Y_S_steepest.2.1 11 = .ok (.aload_n 0, 1) := by decide +kernel
theorem d_S_steepest_12 : decode Y_S_steepest.2.1 12 = .ok (.getfield 27, 3) := by decide +kernel
theorem d_S_steepest_15 : decode Y_S_steepest.2.1 15 = .ok (.getfield 119, 3) := by decide +kernel
theorem d_S_steepest_18 : decode Y_S_steepest.2.1 18 = .ok (.if_icmp .ge 35, 3) := by decide +kernel
theorem d_S_steepest_21 : decode Y_S_steepest.2.1 21 = .ok (.aload_n 0, 1) := by decide +kernel
theorem d_S_steepest_22 : decode Y_S_steepest.2.1 22 = .ok (.iload_n 3, 1) := by decide +kernel
theorem d_S_steepest_23 : decode Y_S_steepest.2.1 23 = .ok (.invokevirtual 259, 3) := by decide +kernel
theorem d_S_steepest_26 : decode Y_S_steepest.2.1 26 = .ok (.aload_n 0, 1) := by decide +kernel
theorem d_S_steepest_27 : decode Y_S_steepest.2.1 27 = .ok (.getfield 64, 3) := by decide +kernel
theorem d_S_steepest_30 : decode Y_S_steepest.2.1 30 = .ok (.getfield 208, 3) := by decide +kernel
theorem d_S_steepest_33 : decode Y_S_steepest.2.1 33 = .ok (.iload_n 2, 1) := by decide +kernel
theorem d_S_steepest_34 : decode Y_S_steepest.2.1 34 = .ok (.if_icmp .le 13, 3) := by decide +kernel
theorem d_S_steepest_37 : decode Y_S_steepest.2.1 37 = .ok (.aload_n 0, 1) := by decide +kernel
theorem d_S_steepest_38 : decode Y_S_steepest.2.1 38 = .ok (.getfield 64, 3) := by decide +kernel
theorem d_S_steepest_41 : decode Y_S_steepest.2.1 41 = .ok (.getfield 208, 3) := by decide +kernel
theorem d_S_steepest_44 : decode Y_S_steepest.2.1 44 = .ok (.istore_n 2, 1) := by decide +kernel
theorem d_S_steepest_45 : decode Y_S_steepest.2.1 45 = .ok (.iload_n 3, 1) := by decide +kernel
theorem d_S_steepest_46 : decode Y_S_steepest.2.1 46 = .ok (.istore_n 1, 1) := by decide +kernel
theorem d_S_steepest_47 : decode Y_S_steepest.2.1 47 = .ok (.iinc 3 1, 3) := by decide +kernel
theorem d_S_steepest_50 : decode Y_S_steepest.2.1 50 = .ok (.goto (-40), 3) := by decide +kernel
theorem d_S_steepest_53 : decode Y_S_steepest.2.1 53 = .ok (.iload_n 1, 1) := by decide +kernel
theorem d_S_steepest_54 : decode Y_S_steepest.2.1 54 = .ok (.ireturn, 1) := by decide +kernel
theorem e_S_steepest {l : Launch} {G : GT} {d : Nat} {P : Int → MM → Prop} {m : MM}   (H : wfM m → ∃ (e1 : Nat) (P2 : MM → Prop), e1 < d ∧ CV l G Y_S_settleAhead e1 [.inr (.inr 0)] m P2 ∧ (∀ m8, P2 m8 → wfM m8 → (Wq l G false Y_S_steepest d (QI P) 10 [(0, .inr (.inr 0)), (1, .inl (-1)), (2, .inl (-1)), (3, .inl 0)] [] m8))) : CI l G Y_S_steepest d [.inr (.inr 0)] m P := by
  refine CI.of [(0, .inr (.inr 0))] k_S_steepest.1 (Nat.le_of_ble_eq_true rfl) rfl (Wp.wf (fun hw _ hl hs => ?_))
  have H0 := H hw
  refine Wp.aload_n 0 0 d_S_steepest_0 rfl rfl ?_
  obtain ⟨e1, P2, hd3, ho4, H5⟩ := H0
  refine Wq.VV (st := []) [] d_S_steepest_1 k_S_settleAhead ml_S_241 rfl rfl rfl (fun h => by cases h) (Nat.le_of_ble_eq_true rfl) hd3 ho4 (fun m8 hp9 hw11 => ?_)
  have H6 := H5 m8 hp9 hw11
  refine Wp.iconst d_S_steepest_4 (by decide) ?_
  refine Wp.istore_n 1 [(0, .inr (.inr 0)), (1, .inl (-1))] d_S_steepest_5 rfl (by decide) rfl ?_
  refine Wp.iconst d_S_steepest_6 (by decide) ?_
  refine Wp.istore_n 2 [(0, .inr (.inr 0)), (1, .inl (-1)), (2, .inl (-1))] d_S_steepest_7 rfl (by decide) rfl ?_
  refine Wp.iconst d_S_steepest_8 (by decide) ?_
  refine Wp.istore_n 3 [(0, .inr (.inr 0)), (1, .inl (-1)), (2, .inl (-1)), (3, .inl 0)] d_S_steepest_9 rfl (by decide) rfl ?_
  exact H6
theorem s_S_steepest_10 {l : Launch} {G : GT} {d : Nat} {P : Int → MM → Prop} {m : MM} (x1 : Int) (x2 : Int) (x3 : Int)  (H : wfM m → inR x1 → inR x2 → inR x3 → ∃ b1 : Nat, m 0 5 = b1 ∧ isB b1 ∧ ((x3 ≥ (m b1 0) → (P x1 m)) ∧ (¬ (x3 ≥ (m b1 0)) → (∃ (e10 : Nat) (P11 : MM → Prop), e10 < d ∧ CV l G Y_S_slideFrom e10 [.inr (.inr 0), .inl x3] m P11 ∧ (∀ m17, P11 m17 → wfM m17 → (((m17 35 2) ≤ x2 → ((inR (x3 + 1)) ∧ (Wq l G false Y_S_steepest d (QI P) 10 [(0, .inr (.inr 0)), (1, .inl x1), (2, .inl x2), (3, .inl (x3 + 1))] [] m17))) ∧ (¬ ((m17 35 2) ≤ x2) → ((inR (x3 + 1)) ∧ (Wq l G false Y_S_steepest d (QI P) 10 [(0, .inr (.inr 0)), (1, .inl x3), (2, .inl (m17 35 2)), (3, .inl (x3 + 1))] [] m17))))))))) : Wq l G false Y_S_steepest d (QI P) 10 [(0, .inr (.inr 0)), (1, .inl x1), (2, .inl x2), (3, .inl x3)] [] m := by
  refine Wp.wf (fun hw _ hl hs => ?_)
  have H0 := H hw (hl _ (List.mem_of_getElem? (i := 1) rfl)) (hl _ (List.mem_of_getElem? (i := 2) rfl)) (hl _ (List.mem_of_getElem? (i := 3) rfl))
  refine Wp.iload_n 3 3 d_S_steepest_10 rfl rfl ?_
  refine Wp.aload_n 0 0 d_S_steepest_11 rfl rfl ?_
  obtain ⟨b1, hb2, hB3, H4⟩ := H0
  refine Wp.getR b1 d_S_steepest_12 fl_S_27 rfl (Or.inl rfl) rfl hb2 ?_
  refine Wq.getI 0 rfl d_S_steepest_15 fl_S_119 (isB_lay hB3) (Or.inl rfl) ?_
  obtain ⟨H6, H7⟩ := H4
  refine Wp.icmp_ge 53 d_S_steepest_18 (by decide) (fun c5 => ?_) (fun c5 => ?_)
  · have H8 := H6 c5
    refine Wp.iload_n 1 1 d_S_steepest_53 rfl rfl ?_
    exact Wq.iret d_S_steepest_54 rfl H8
  · have H9 := H7 c5
    refine Wp.aload_n 0 0 d_S_steepest_21 rfl rfl ?_
    refine Wp.iload_n 3 3 d_S_steepest_22 rfl rfl ?_
    obtain ⟨e10, P11, hd12, ho13, H14⟩ := H9
    refine Wq.VV (st := []) [.inl x3] d_S_steepest_23 k_S_slideFrom ml_S_259 rfl rfl rfl (fun h => by cases h) (Nat.le_of_ble_eq_true rfl) hd12 ho13 (fun m17 hp18 hw20 => ?_)
    have H15 := H14 m17 hp18 hw20
    refine Wp.aload_n 0 0 d_S_steepest_26 rfl rfl ?_
    refine Wp.getP 35 d_S_steepest_27 fl_S_64 rfl rfl rfl ?_
    refine Wq.getI 2 rfl d_S_steepest_30 fl_S_208 rfl (Or.inl rfl) ?_
    refine Wp.iload_n 2 2 d_S_steepest_33 rfl rfl ?_
    obtain ⟨H22, H23⟩ := H15
    refine Wp.icmp_le 47 d_S_steepest_34 (by decide) (fun c21 => ?_) (fun c21 => ?_)
    · have H24 := H22 c21
      obtain ⟨s26, H27⟩ := H24
      refine Wp.iinc 3 3 [(0, .inr (.inr 0)), (1, .inl x1), (2, .inl x2), (3, .inl (x3 + 1))] d_S_steepest_47 rfl s26 (by decide) rfl ?_
      refine Wp.goto 10 d_S_steepest_50 (by decide) ?_
      exact H27
    · have H25 := H23 c21
      refine Wp.aload_n 0 0 d_S_steepest_37 rfl rfl ?_
      refine Wp.getP 35 d_S_steepest_38 fl_S_64 rfl rfl rfl ?_
      refine Wq.getI 2 rfl d_S_steepest_41 fl_S_208 rfl (Or.inl rfl) ?_
      refine Wp.istore_n 2 [(0, .inr (.inr 0)), (1, .inl x1), (2, .inl (m17 35 2)), (3, .inl x3)] d_S_steepest_44 rfl (by decide) rfl ?_
      refine Wp.iload_n 3 3 d_S_steepest_45 rfl rfl ?_
      refine Wp.istore_n 1 [(0, .inr (.inr 0)), (1, .inl x3), (2, .inl (m17 35 2)), (3, .inl x3)] d_S_steepest_46 rfl (by decide) rfl ?_
      obtain ⟨s28, H29⟩ := H25
      refine Wp.iinc 3 3 [(0, .inr (.inr 0)), (1, .inl x3), (2, .inl (m17 35 2)), (3, .inl (x3 + 1))] d_S_steepest_47 rfl s28 (by decide) rfl ?_
      refine Wp.goto 10 d_S_steepest_50 (by decide) ?_
      exact H29
theorem d_S_quiet_0 : decode Y_S_quiet.2.1 0 = .ok (.aload_n 0, 1) := by decide +kernel
theorem d_S_quiet_1 : decode Y_S_quiet.2.1 1 = .ok (.invokevirtual 241, 3) := by decide +kernel
theorem d_S_quiet_4 : decode Y_S_quiet.2.1 4 = .ok (.iconst 0, 1) := by decide +kernel
theorem d_S_quiet_5 : decode Y_S_quiet.2.1 5 = .ok (.istore_n 1, 1) := by decide +kernel
theorem d_S_quiet_6 : decode Y_S_quiet.2.1 6 = .ok (.iconst 0, 1) := by decide +kernel
theorem d_S_quiet_7 : decode Y_S_quiet.2.1 7 = .ok (.istore_n 2, 1) := by decide +kernel
theorem d_S_quiet_8 : decode Y_S_quiet.2.1 8 = .ok (.iload_n 2, 1) := by decide +kernel
theorem d_S_quiet_9 : decode Y_S_quiet.2.1 9 = .ok (.aload_n 0, 1) := by decide +kernel
theorem d_S_quiet_10 : decode Y_S_quiet.2.1 10 = .ok (.getfield 27, 3) := by decide +kernel
theorem d_S_quiet_13 : decode Y_S_quiet.2.1 13 = .ok (.getfield 119, 3) := by decide +kernel
theorem d_S_quiet_16 : decode Y_S_quiet.2.1 16 = .ok (.if_icmp .ge 30, 3) := by decide +kernel
theorem d_S_quiet_19 : decode Y_S_quiet.2.1 19 = .ok (.aload_n 0, 1) := by decide +kernel
theorem d_S_quiet_20 : decode Y_S_quiet.2.1 20 = .ok (.iload_n 2, 1) := by decide +kernel
theorem d_S_quiet_21 : decode Y_S_quiet.2.1 21 = .ok (.invokevirtual 259, 3) := by decide +kernel
theorem d_S_quiet_24 : decode Y_S_quiet.2.1 24 = .ok (.aload_n 0, 1) := by decide +kernel
theorem d_S_quiet_25 : decode Y_S_quiet.2.1 25 = .ok (.getfield 64, 3) := by decide +kernel
theorem d_S_quiet_28 : decode Y_S_quiet.2.1 28 = .ok (.getfield 208, 3) := by decide +kernel
theorem d_S_quiet_31 : decode Y_S_quiet.2.1 31 = .ok (.ifCond .ne 9, 3) := by decide +kernel
theorem d_S_quiet_34 : decode Y_S_quiet.2.1 34 = .ok (.iload_n 1, 1) := by decide +kernel
theorem d_S_quiet_35 : decode Y_S_quiet.2.1 35 = .ok (.iconst 1, 1) := by decide +kernel
theorem d_S_quiet_36 : decode Y_S_quiet.2.1 36 = .ok (.iload_n 2, 1) := by decide +kernel
theorem d_S_quiet_37 : decode Y_S_quiet.2.1 37 = .ok (.ishl, 1) := by decide +kernel
theorem d_S_quiet_38 : decode Y_S_quiet.2.1 38 = .ok (.ior, 1) := by decide +kernel
theorem d_S_quiet_39 : decode Y_S_quiet.2.1 39 = .ok (.istore_n 1, 1) := by decide +kernel
theorem d_S_quiet_40 : decode Y_S_quiet.2.1 40 = .ok (.iinc 2 1, 3) := by decide +kernel
theorem d_S_quiet_43 : decode Y_S_quiet.2.1 43 = .ok (.goto (-35), 3) := by decide +kernel
theorem d_S_quiet_46 : decode Y_S_quiet.2.1 46 = .ok (.iload_n 1, 1) := by decide +kernel
theorem d_S_quiet_47 : decode Y_S_quiet.2.1 47 = .ok (.ireturn, 1) := by decide +kernel
theorem e_S_quiet {l : Launch} {G : GT} {d : Nat} {P : Int → MM → Prop} {m : MM}   (H : wfM m → ∃ (e1 : Nat) (P2 : MM → Prop), e1 < d ∧ CV l G Y_S_settleAhead e1 [.inr (.inr 0)] m P2 ∧ (∀ m8, P2 m8 → wfM m8 → (Wq l G false Y_S_quiet d (QI P) 8 [(0, .inr (.inr 0)), (1, .inl 0), (2, .inl 0)] [] m8))) : CI l G Y_S_quiet d [.inr (.inr 0)] m P := by
  refine CI.of [(0, .inr (.inr 0))] k_S_quiet.1 (Nat.le_of_ble_eq_true rfl) rfl (Wp.wf (fun hw _ hl hs => ?_))
  have H0 := H hw
  refine Wp.aload_n 0 0 d_S_quiet_0 rfl rfl ?_
  obtain ⟨e1, P2, hd3, ho4, H5⟩ := H0
  refine Wq.VV (st := []) [] d_S_quiet_1 k_S_settleAhead ml_S_241 rfl rfl rfl (fun h => by cases h) (Nat.le_of_ble_eq_true rfl) hd3 ho4 (fun m8 hp9 hw11 => ?_)
  have H6 := H5 m8 hp9 hw11
  refine Wp.iconst d_S_quiet_4 (by decide) ?_
  refine Wp.istore_n 1 [(0, .inr (.inr 0)), (1, .inl 0)] d_S_quiet_5 rfl (by decide) rfl ?_
  refine Wp.iconst d_S_quiet_6 (by decide) ?_
  refine Wp.istore_n 2 [(0, .inr (.inr 0)), (1, .inl 0), (2, .inl 0)] d_S_quiet_7 rfl (by decide) rfl ?_
  exact H6
theorem s_S_quiet_8 {l : Launch} {G : GT} {d : Nat} {P : Int → MM → Prop} {m : MM} (x1 : Int) (x2 : Int)  (H : wfM m → inR x1 → inR x2 → ∃ b1 : Nat, m 0 5 = b1 ∧ isB b1 ∧ ((x2 ≥ (m b1 0) → (P x1 m)) ∧ (¬ (x2 ≥ (m b1 0)) → (∃ (e10 : Nat) (P11 : MM → Prop), e10 < d ∧ CV l G Y_S_slideFrom e10 [.inr (.inr 0), .inl x2] m P11 ∧ (∀ m17, P11 m17 → wfM m17 → (((m17 35 2) ≠ 0 → ((inR (x2 + 1)) ∧ (Wq l G false Y_S_quiet d (QI P) 8 [(0, .inr (.inr 0)), (1, .inl x1), (2, .inl (x2 + 1))] [] m17))) ∧ (¬ ((m17 35 2) ≠ 0) → ((inR (x2 + 1)) ∧ (Wq l G false Y_S_quiet d (QI P) 8 [(0, .inr (.inr 0)), (1, .inl (bOr x1 (bShl 1 x2))), (2, .inl (x2 + 1))] [] m17))))))))) : Wq l G false Y_S_quiet d (QI P) 8 [(0, .inr (.inr 0)), (1, .inl x1), (2, .inl x2)] [] m := by
  refine Wp.wf (fun hw _ hl hs => ?_)
  have H0 := H hw (hl _ (List.mem_of_getElem? (i := 1) rfl)) (hl _ (List.mem_of_getElem? (i := 2) rfl))
  refine Wp.iload_n 2 2 d_S_quiet_8 rfl rfl ?_
  refine Wp.aload_n 0 0 d_S_quiet_9 rfl rfl ?_
  obtain ⟨b1, hb2, hB3, H4⟩ := H0
  refine Wp.getR b1 d_S_quiet_10 fl_S_27 rfl (Or.inl rfl) rfl hb2 ?_
  refine Wq.getI 0 rfl d_S_quiet_13 fl_S_119 (isB_lay hB3) (Or.inl rfl) ?_
  obtain ⟨H6, H7⟩ := H4
  refine Wp.icmp_ge 46 d_S_quiet_16 (by decide) (fun c5 => ?_) (fun c5 => ?_)
  · have H8 := H6 c5
    refine Wp.iload_n 1 1 d_S_quiet_46 rfl rfl ?_
    exact Wq.iret d_S_quiet_47 rfl H8
  · have H9 := H7 c5
    refine Wp.aload_n 0 0 d_S_quiet_19 rfl rfl ?_
    refine Wp.iload_n 2 2 d_S_quiet_20 rfl rfl ?_
    obtain ⟨e10, P11, hd12, ho13, H14⟩ := H9
    refine Wq.VV (st := []) [.inl x2] d_S_quiet_21 k_S_slideFrom ml_S_259 rfl rfl rfl (fun h => by cases h) (Nat.le_of_ble_eq_true rfl) hd12 ho13 (fun m17 hp18 hw20 => ?_)
    have H15 := H14 m17 hp18 hw20
    refine Wp.aload_n 0 0 d_S_quiet_24 rfl rfl ?_
    refine Wp.getP 35 d_S_quiet_25 fl_S_64 rfl rfl rfl ?_
    refine Wq.getI 2 rfl d_S_quiet_28 fl_S_208 rfl (Or.inl rfl) ?_
    obtain ⟨H22, H23⟩ := H15
    refine Wp.if_ne 40 d_S_quiet_31 (by decide) (fun c21 => ?_) (fun c21 => ?_)
    · have H24 := H22 c21
      obtain ⟨s26, H27⟩ := H24
      refine Wp.iinc 2 2 [(0, .inr (.inr 0)), (1, .inl x1), (2, .inl (x2 + 1))] d_S_quiet_40 rfl s26 (by decide) rfl ?_
      refine Wp.goto 8 d_S_quiet_43 (by decide) ?_
      exact H27
    · have H25 := H23 c21
      refine Wp.iload_n 1 1 d_S_quiet_34 rfl rfl ?_
      refine Wp.iconst d_S_quiet_35 (by decide) ?_
      refine Wp.iload_n 2 2 d_S_quiet_36 rfl rfl ?_
      refine Wp.ishl d_S_quiet_37 ?_
      refine Wp.ior d_S_quiet_38 ?_
      refine Wp.istore_n 1 [(0, .inr (.inr 0)), (1, .inl (bOr x1 (bShl 1 x2))), (2, .inl x2)] d_S_quiet_39 rfl (by decide) rfl ?_
      obtain ⟨s28, H29⟩ := H25
      refine Wp.iinc 2 2 [(0, .inr (.inr 0)), (1, .inl (bOr x1 (bShl 1 x2))), (2, .inl (x2 + 1))] d_S_quiet_40 rfl s28 (by decide) rfl ?_
      refine Wp.goto 8 d_S_quiet_43 (by decide) ?_
      exact H29
theorem d_S_fire_0 : decode Y_S_fire.2.1 0 = .ok (.aload_n 0, 1) := by decide +kernel
theorem d_S_fire_1 : decode Y_S_fire.2.1 1 = .ok (.invokevirtual 241, 3) := by decide +kernel
theorem d_S_fire_4 : decode Y_S_fire.2.1 4 = .ok (.aload_n 0, 1) := by decide +kernel
theorem d_S_fire_5 : decode Y_S_fire.2.1 5 = .ok (.getfield 91, 3) := by decide +kernel
theorem d_S_fire_8 : decode Y_S_fire.2.1 8 = .ok (.invokevirtual 132, 3) := by decide +kernel
theorem d_S_fire_11 : decode Y_S_fire.2.1 11 = .ok (.aload_n 0, 1) := by decide +kernel
theorem d_S_fire_12 : decode Y_S_fire.2.1 12 = .ok (.getfield 77, 3) := by decide +kernel
theorem d_S_fire_15 : decode Y_S_fire.2.1 15 = .ok (.aload_n 0, 1) := by decide +kernel
theorem d_S_fire_16 : decode Y_S_fire.2.1 16 = .ok (.getfield 27, 3) := by decide +kernel
theorem d_S_fire_19 : decode Y_S_fire.2.1 19 = .ok (.aload_n 0, 1) := by decide +kernel
theorem d_S_fire_20 : decode Y_S_fire.2.1 20 = .ok (.getfield 60, 3) := by decide +kernel
theorem d_S_fire_23 : decode Y_S_fire.2.1 23 = .ok (.getfield 211, 3) := by decide +kernel
theorem d_S_fire_26 : decode Y_S_fire.2.1 26 = .ok (.aload_n 0, 1) := by decide +kernel
theorem d_S_fire_27 : decode Y_S_fire.2.1 27 = .ok (.getfield 91, 3) := by decide +kernel
theorem d_S_fire_30 : decode Y_S_fire.2.1 30 = .ok (.invokevirtual 265, 3) := by decide +kernel
theorem d_S_fire_33 : decode Y_S_fire.2.1 33 = .ok (.ireturn, 1) := by decide +kernel
theorem e_S_fire {l : Launch} {G : GT} {d : Nat} {P : Int → MM → Prop} {m : MM}   (H : wfM m → ∃ (e1 : Nat) (P2 : MM → Prop), e1 < d ∧ CV l G Y_S_settleAhead e1 [.inr (.inr 0)] m P2 ∧ (∀ m8, P2 m8 → wfM m8 → (∃ (e12 : Nat) (P13 : MM → Prop), e12 < d ∧ CV l G Y_Lying_clear e12 [.inr (.inr 67)] m8 P13 ∧ (∀ m19, P13 m19 → wfM m19 → (∃ b23 : Nat, m19 0 5 = b23 ∧ isB b23 ∧ (∃ (e27 : Nat) (P28 : Int → MM → Prop), e27 < d ∧ CI l G Y_Fire_burn e27 [.inr (.inr 45), .inr (.inr b23), .inr (.inr 33), .inr (.inr 67)] m19 P28 ∧ (∀ z33 m34, P28 z33 m34 → inR z33 → wfM m34 → (P z33 m34)))))))) : CI l G Y_S_fire d [.inr (.inr 0)] m P := by
  refine CI.of [(0, .inr (.inr 0))] k_S_fire.1 (Nat.le_of_ble_eq_true rfl) rfl (Wp.wf (fun hw _ hl hs => ?_))
  have H0 := H hw
  refine Wp.aload_n 0 0 d_S_fire_0 rfl rfl ?_
  obtain ⟨e1, P2, hd3, ho4, H5⟩ := H0
  refine Wq.VV (st := []) [] d_S_fire_1 k_S_settleAhead ml_S_241 rfl rfl rfl (fun h => by cases h) (Nat.le_of_ble_eq_true rfl) hd3 ho4 (fun m8 hp9 hw11 => ?_)
  have H6 := H5 m8 hp9 hw11
  refine Wp.aload_n 0 0 d_S_fire_4 rfl rfl ?_
  refine Wp.getP 67 d_S_fire_5 fl_S_91 rfl rfl rfl ?_
  obtain ⟨e12, P13, hd14, ho15, H16⟩ := H6
  refine Wq.VV (st := []) [] d_S_fire_8 k_Lying_clear ml_S_132 rfl rfl rfl (fun h => by cases h) (Nat.le_of_ble_eq_true rfl) hd14 ho15 (fun m19 hp20 hw22 => ?_)
  have H17 := H16 m19 hp20 hw22
  refine Wp.aload_n 0 0 d_S_fire_11 rfl rfl ?_
  refine Wp.getP 45 d_S_fire_12 fl_S_77 rfl rfl rfl ?_
  refine Wp.aload_n 0 0 d_S_fire_15 rfl rfl ?_
  obtain ⟨b23, hb24, hB25, H26⟩ := H17
  refine Wp.getR b23 d_S_fire_16 fl_S_27 rfl (Or.inl rfl) rfl hb24 ?_
  refine Wp.aload_n 0 0 d_S_fire_19 rfl rfl ?_
  refine Wp.getP 32 d_S_fire_20 fl_S_60 rfl rfl rfl ?_
  refine Wp.getP 33 d_S_fire_23 fl_S_211 rfl rfl rfl ?_
  refine Wp.aload_n 0 0 d_S_fire_26 rfl rfl ?_
  refine Wp.getP 67 d_S_fire_27 fl_S_91 rfl rfl rfl ?_
  obtain ⟨e27, P28, hd29, ho30, H31⟩ := H26
  refine Wq.VI (st := []) [.inr (.inr b23), .inr (.inr 33), .inr (.inr 67)] d_S_fire_30 k_Fire_burn ml_S_265 rfl rfl rfl (fun h => by cases h) (Nat.le_of_ble_eq_true rfl) hd29 ho30 (fun z33 m34 hp35 hz36 hw37 => ?_)
  have H32 := H31 z33 m34 hp35 hz36 hw37
  exact Wq.iret d_S_fire_33 rfl H32
theorem d_S_many_0 : decode Y_S_many.2.1 0 = .ok (.aload_n 0, 1) := by decide +kernel
theorem d_S_many_1 : decode Y_S_many.2.1 1 = .ok (.getfield 70, 3) := by decide +kernel
theorem d_S_many_4 : decode Y_S_many.2.1 4 = .ok (.getfield 269, 3) := by decide +kernel
theorem d_S_many_7 : decode Y_S_many.2.1 7 = .ok (.l2i, 1) := by decide +kernel
theorem d_S_many_8 : decode Y_S_many.2.1 8 = .ok (.ireturn, 1) := by decide +kernel
theorem e_S_many {l : Launch} {G : GT} {d : Nat} {P : Int → MM → Prop} {m : MM}   (H : wfM m → (inR (m 38 6)) ∧ (P (m 38 6) m)) : CI l G Y_S_many d [.inr (.inr 0)] m P := by
  refine CI.of [(0, .inr (.inr 0))] k_S_many.1 (Nat.le_of_ble_eq_true rfl) rfl (Wp.wf (fun hw _ hl hs => ?_))
  have H0 := H hw
  refine Wp.aload_n 0 0 d_S_many_0 rfl rfl ?_
  refine Wp.getP 38 d_S_many_1 fl_S_70 rfl rfl rfl ?_
  refine Wq.getL 6 rfl d_S_many_4 fl_S_269 rfl rfl ?_
  obtain ⟨s1, H2⟩ := H0
  refine Wq.l2i d_S_many_7 s1 ?_
  exact Wq.iret d_S_many_8 rfl H2
theorem d_S_level_0 : decode Y_S_level.2.1 0 = .ok (.iload_n 1, 1) := by decide +kernel
theorem d_S_level_1 : decode Y_S_level.2.1 1 = .ok (.ifCond .ge 7, 3) := by decide +kernel
theorem d_S_level_4 : decode Y_S_level.2.1 4 = .ok (.iconst (-1), 1) := by decide +kernel
theorem d_S_level_5 : decode Y_S_level.2.1 5 = .ok (.goto 15, 3) := by decide +kernel
theorem d_S_level_8 : decode Y_S_level.2.1 8 = .ok (.aload_n 0, 1) := by decide +kernel
theorem d_S_level_9 : decode Y_S_level.2.1 9 = .ok (.getfield 77, 3) := by decide +kernel
theorem d_S_level_12 : decode Y_S_level.2.1 12 = .ok (.aload_n 0, 1) := by decide +kernel
theorem d_S_level_13 : decode Y_S_level.2.1 13 = .ok (.getfield 27, 3) := by decide +kernel
theorem d_S_level_16 : decode Y_S_level.2.1 16 = .ok (.iload_n 1, 1) := by decide +kernel
theorem d_S_level_17 : decode Y_S_level.2.1 17 = .ok (.invokevirtual 273, 3) := by decide +kernel
theorem d_S_level_20 : decode Y_S_level.2.1 20 = .ok (.ireturn, 1) := by decide +kernel
theorem e_S_level {l : Launch} {G : GT} {d : Nat} {P : Int → MM → Prop} {m : MM} (x1 : Int)  (H : wfM m → inR x1 → (x1 ≥ 0 → (∃ b6 : Nat, m 0 5 = b6 ∧ isB b6 ∧ (∃ (e10 : Nat) (P11 : Int → MM → Prop), e10 < d ∧ CI l G Y_Fire_ofLevel e10 [.inr (.inr 45), .inr (.inr b6), .inl x1] m P11 ∧ (∀ z16 m17, P11 z16 m17 → inR z16 → wfM m17 → (P z16 m17))))) ∧ (¬ (x1 ≥ 0) → (P (-1) m))) : CI l G Y_S_level d [.inr (.inr 0), .inl x1] m P := by
  refine CI.of [(0, .inr (.inr 0)), (1, .inl x1)] k_S_level.1 (Nat.le_of_ble_eq_true rfl) rfl (Wp.wf (fun hw _ hl hs => ?_))
  have H0 := H hw (hl _ (List.mem_of_getElem? (i := 1) rfl))
  refine Wp.iload_n 1 1 d_S_level_0 rfl rfl ?_
  obtain ⟨H2, H3⟩ := H0
  refine Wp.if_ge 8 d_S_level_1 (by decide) (fun c1 => ?_) (fun c1 => ?_)
  · have H4 := H2 c1
    refine Wp.aload_n 0 0 d_S_level_8 rfl rfl ?_
    refine Wp.getP 45 d_S_level_9 fl_S_77 rfl rfl rfl ?_
    refine Wp.aload_n 0 0 d_S_level_12 rfl rfl ?_
    obtain ⟨b6, hb7, hB8, H9⟩ := H4
    refine Wp.getR b6 d_S_level_13 fl_S_27 rfl (Or.inl rfl) rfl hb7 ?_
    refine Wp.iload_n 1 1 d_S_level_16 rfl rfl ?_
    obtain ⟨e10, P11, hd12, ho13, H14⟩ := H9
    refine Wq.VI (st := []) [.inr (.inr b6), .inl x1] d_S_level_17 k_Fire_ofLevel ml_S_273 rfl rfl rfl (fun h => by cases h) (Nat.le_of_ble_eq_true rfl) hd12 ho13 (fun z16 m17 hp18 hz19 hw20 => ?_)
    have H15 := H14 z16 m17 hp18 hz19 hw20
    exact Wq.iret d_S_level_20 rfl H15
  · have H5 := H3 c1
    refine Wp.iconst d_S_level_4 (by decide) ?_
    refine Wp.goto 20 d_S_level_5 (by decide) ?_
    exact Wq.iret d_S_level_20 rfl H5
