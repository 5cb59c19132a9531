theorem d_Lying_clear_0 : decode Y_Lying_clear.2.1 0 = .ok (.aload_n 0, 1) := by decide +kernel
theorem d_Lying_clear_1 : decode Y_Lying_clear.2.1 1 = .ok (.iconst 0, 1) := by decide +kernel
theorem d_Lying_clear_2 : decode Y_Lying_clear.2.1 2 = .ok (.putfield 13, 3) := by decide +kernel
theorem d_Lying_clear_5 : decode Y_Lying_clear.2.1 5 = .ok (.return_, 1) := by decide +kernel
theorem e_Lying_clear {l : Launch} {G : GT} {d : Nat} {P : MM → Prop} {m : MM}   (H : wfM m → ∀ m1, m1 = up m 67 1 0 → (P m1)) : CV l G Y_Lying_clear d [.inr (.inr 67)] m P := by
  refine CV.of [(0, .inr (.inr 67))] k_Lying_clear.1 (Nat.le_of_ble_eq_true rfl) rfl (Wp.wf (fun hw _ hl hs => ?_))
  have H0 := H hw
  refine Wp.aload_n 0 0 d_Lying_clear_0 rfl rfl ?_
  refine Wp.iconst d_Lying_clear_1 (by decide) ?_
  refine Wq.putI 1 rfl d_Lying_clear_2 fl_Lying_13 (fun _ _ _ h => by cases h; rfl) rfl rfl rfl (fun m1 hm2 => ?_)
  have H3 := H0 m1 hm2
  exact Wq.vret d_Lying_clear_5 rfl H3
theorem d_Lying_put_0 : decode Y_Lying_put.2.1 0 = .ok (.aload_n 0, 1) := by decide +kernel
theorem d_Lying_put_1 : decode Y_Lying_put.2.1 1 = .ok (.getfield 13, 3) := by decide +kernel
theorem d_Lying_put_4 : decode Y_Lying_put.2.1 4 = .ok (.bipush 60, 2) := by decide +kernel
theorem d_Lying_put_6 : decode Y_Lying_put.2.1 6 = .ok (.if_icmp .ge 23, 3) := by decide +kernel
theorem d_Lying_put_9 : decode Y_Lying_put.2.1 9 = .ok (.aload_n 0, 1) := by decide +kernel
theorem d_Lying_put_10 : decode Y_Lying_put.2.1 10 = .ok (.getfield 9, 3) := by decide +kernel
theorem d_Lying_put_13 : decode Y_Lying_put.2.1 13 = .ok (.aload_n 0, 1) := by decide +kernel
theorem d_Lying_put_14 : decode Y_Lying_put.2.1 14 = .ok (.getfield 13, 3) := by decide +kernel
theorem d_Lying_put_17 : decode Y_Lying_put.2.1 17 = .ok (.iload_n 1, 1) := by decide +kernel
theorem d_Lying_put_18 : decode Y_Lying_put.2.1 18 = .ok (.iastore, 1) := by decide +kernel
theorem d_Lying_put_19 : decode Y_Lying_put.2.1 19 = .ok (.aload_n 0, 1) := by decide +kernel
theorem d_Lying_put_20 : decode Y_Lying_put.2.1 20 = .ok (.dup, 1) := by decide +kernel
theorem d_Lying_put_21 : decode Y_Lying_put.2.1 21 = .ok (.getfield 13, 3) := by decide +kernel
theorem d_Lying_put_24 : decode Y_Lying_put.2.1 24 = .ok (.iconst 1, 1) := by decide +kernel
theorem d_Lying_put_25 : decode Y_Lying_put.2.1 25 = .ok (.iadd, 1) := by decide +kernel
theorem d_Lying_put_26 : decode Y_Lying_put.2.1 26 = .ok (.putfield 13, 3) := by decide +kernel
theorem d_Lying_put_29 : decode Y_Lying_put.2.1 29 = .ok (.return_, 1) := by decide +kernel
theorem e_Lying_put {l : Launch} {G : GT} {d : Nat} {P : MM → Prop} {m : MM} (x1 : Int)  (H : wfM m → inR x1 → ((m 67 1) ≥ 60 → (P m)) ∧ (¬ ((m 67 1) ≥ 60) → ((0 ≤ (m 67 1) ∧ (m 67 1) < (60 : Int)) ∧ (∀ m6, m6 = up m 68 (m 67 1) x1 → ((inR ((m6 67 1) + 1)) ∧ (∀ m13, m13 = up m6 67 1 ((m6 67 1) + 1) → (P m13))))))) : CV l G Y_Lying_put d [.inr (.inr 67), .inl x1] m P := by
  refine CV.of [(0, .inr (.inr 67)), (1, .inl x1)] k_Lying_put.1 (Nat.le_of_ble_eq_true rfl) rfl (Wp.wf (fun hw _ hl hs => ?_))
  have H0 := H hw (hl _ (List.mem_of_getElem? (i := 1) rfl))
  refine Wp.aload_n 0 0 d_Lying_put_0 rfl rfl ?_
  refine Wq.getI 1 rfl d_Lying_put_1 fl_Lying_13 rfl (Or.inl rfl) ?_
  refine Wp.bipush d_Lying_put_4 (by decide) (by decide) ?_
  obtain ⟨H2, H3⟩ := H0
  refine Wp.icmp_ge 29 d_Lying_put_6 (by decide) (fun c1 => ?_) (fun c1 => ?_)
  · have H4 := H2 c1
    exact Wq.vret d_Lying_put_29 rfl H4
  · have H5 := H3 c1
    refine Wp.aload_n 0 0 d_Lying_put_9 rfl rfl ?_
    refine Wp.getP 68 d_Lying_put_10 fl_Lying_9 rfl rfl rfl ?_
    refine Wp.aload_n 0 0 d_Lying_put_13 rfl rfl ?_
    refine Wq.getI 1 rfl d_Lying_put_14 fl_Lying_13 rfl (Or.inl rfl) ?_
    refine Wp.iload_n 1 1 d_Lying_put_17 rfl rfl ?_
    obtain ⟨s16, H17⟩ := H5
    refine Wq.iast d_Lying_put_18 rfl s16.1 s16.2 (fun m6 hm7 => ?_)
    have H8 := H17 m6 hm7
    refine Wp.aload_n 0 0 d_Lying_put_19 rfl rfl ?_
    refine Wp.dup d_Lying_put_20 rfl ?_
    refine Wq.getI 1 rfl d_Lying_put_21 fl_Lying_13 rfl (Or.inl rfl) ?_
    refine Wp.iconst d_Lying_put_24 (by decide) ?_
    obtain ⟨s11, H12⟩ := H8
    refine Wp.iadd d_Lying_put_25 s11 ?_
    refine Wq.putI 1 rfl d_Lying_put_26 fl_Lying_13 (fun _ _ _ h => by cases h; rfl) rfl rfl rfl (fun m13 hm14 => ?_)
    have H15 := H12 m13 hm14
    exact Wq.vret d_Lying_put_29 rfl H15
theorem d_Acts_forget_0 : decode Y_Acts_forget.2.1 0 = .ok (.aload_n 0, 1) := by decide +kernel
theorem d_Acts_forget_1 : decode Y_Acts_forget.2.1 1 = .ok (.iconst 0, 1) := by decide +kernel
theorem d_Acts_forget_2 : decode Y_Acts_forget.2.1 2 = .ok (.putfield 15, 3) := by decide +kernel
theorem d_Acts_forget_5 : decode Y_Acts_forget.2.1 5 = .ok (.aload_n 0, 1) := by decide +kernel
theorem d_Acts_forget_6 : decode Y_Acts_forget.2.1 6 = .ok (.iconst 0, 1) := by decide +kernel
theorem d_Acts_forget_7 : decode Y_Acts_forget.2.1 7 = .ok (.putfield 19, 3) := by decide +kernel
theorem d_Acts_forget_10 : decode Y_Acts_forget.2.1 10 = .ok (.aload_n 1, 1) := by decide +kernel
theorem d_Acts_forget_11 : decode Y_Acts_forget.2.1 11 = .ok (.iconst 0, 1) := by decide +kernel
theorem d_Acts_forget_12 : decode Y_Acts_forget.2.1 12 = .ok (.aload_n 0, 1) := by decide +kernel
theorem d_Acts_forget_13 : decode Y_Acts_forget.2.1 13 = .ok (.getfield 11, 3) := by decide +kernel
theorem d_Acts_forget_16 : decode Y_Acts_forget.2.1 16 = .ok (.iconst 0, 1) := by decide +kernel
theorem d_Acts_forget_17 : decode Y_Acts_forget.2.1 17 = .ok (.bipush 8, 2) := by decide +kernel
theorem d_Acts_forget_19 : decode Y_Acts_forget.2.1 19 = .ok (.invokestatic 22, 3) := by decide +kernel
theorem d_Acts_forget_22 : decode Y_Acts_forget.2.1 22 = .ok (.return_, 1) := by decide +kernel
theorem e_Acts_forget {l : Launch} {G : GT} {d : Nat} {P : MM → Prop} {m : MM} (h1 : Nat) (n1 : Nat) (hl1 : q_lay h1 = .inr (0, n1)) (hlt_h1 : n1 < 2147483648) (hd1 : 1 ≤ d) (H : wfM m → ∀ m1, m1 = up m 28 1 0 → (∀ m4, m4 = up m1 28 2 0 → (((0 : Int) ≤ 0 ∧ (0 : Int) ≤ 0 ∧ (0 : Int) < 8 ∧ (0 : Int) + 8 ≤ (n1 : Nat) ∧ (0 : Int) + 8 ≤ (328 : Nat)) ∧ (∀ m7, m7 = upC m4 h1 29 0 0 8 → (P m7))))) : CV l G Y_Acts_forget d [.inr (.inr 28), .inr (.inr h1)] m P := by
  refine CV.of [(0, .inr (.inr 28)), (1, .inr (.inr h1))] k_Acts_forget.1 (Nat.le_of_ble_eq_true rfl) rfl (Wp.wf (fun hw _ hl hs => ?_))
  have H0 := H hw
  refine Wp.aload_n 0 0 d_Acts_forget_0 rfl rfl ?_
  refine Wp.iconst d_Acts_forget_1 (by decide) ?_
  refine Wq.putI 1 rfl d_Acts_forget_2 fl_Acts_15 (fun _ _ _ h => by cases h; rfl) rfl rfl rfl (fun m1 hm2 => ?_)
  have H3 := H0 m1 hm2
  refine Wp.aload_n 0 0 d_Acts_forget_5 rfl rfl ?_
  refine Wp.iconst d_Acts_forget_6 (by decide) ?_
  refine Wq.putI 2 rfl d_Acts_forget_7 fl_Acts_19 (fun _ _ _ h => by cases h; rfl) rfl rfl rfl (fun m4 hm5 => ?_)
  have H6 := H3 m4 hm5
  refine Wp.aload_n 1 1 d_Acts_forget_10 rfl rfl ?_
  refine Wp.iconst d_Acts_forget_11 (by decide) ?_
  refine Wp.aload_n 0 0 d_Acts_forget_12 rfl rfl ?_
  refine Wp.getP 29 d_Acts_forget_13 fl_Acts_11 rfl rfl rfl ?_
  refine Wp.iconst d_Acts_forget_16 (by decide) ?_
  refine Wp.bipush d_Acts_forget_17 (by decide) (by decide) ?_
  obtain ⟨s11, H10⟩ := H6
  refine Wq.acopy d_Acts_forget_19 ml_Acts_22 hl1 rfl hlt_h1 (by decide) hd1 (fun h => by cases h) (Nat.le_of_ble_eq_true rfl) s11 (fun m7 hm8 => ?_)
  have H9 := H10 m7 hm8
  exact Wq.vret d_Acts_forget_22 rfl H9
theorem d_Acts_keep_0 : decode Y_Acts_keep.2.1 0 = .ok (.aload_n 0, 1) := by decide +kernel
theorem d_Acts_keep_1 : decode Y_Acts_keep.2.1 1 = .ok (.getfield 15, 3) := by decide +kernel
theorem d_Acts_keep_4 : decode Y_Acts_keep.2.1 4 = .ok (.bipush 40, 2) := by decide +kernel
theorem d_Acts_keep_6 : decode Y_Acts_keep.2.1 6 = .ok (.if_icmp .ge 16, 3) := by decide +kernel
theorem d_Acts_keep_9 : decode Y_Acts_keep.2.1 9 = .ok (.aload_n 0, 1) := by decide +kernel
theorem d_Acts_keep_10 : decode Y_Acts_keep.2.1 10 = .ok (.dup, 1) := by decide +kernel
theorem d_Acts_keep_11 : decode Y_Acts_keep.2.1 11 = .ok (.getfield 15, 3) := by decide +kernel
theorem d_Acts_keep_14 : decode Y_Acts_keep.2.1 14 = .ok (.iconst 1, 1) := by decide +kernel
theorem d_Acts_keep_15 : decode Y_Acts_keep.2.1 15 = .ok (.iadd, 1) := by decide +kernel
theorem d_Acts_keep_16 : decode Y_Acts_keep.2.1 16 = .ok (.putfield 15, 3) := by decide +kernel
theorem d_Acts_keep_19 : decode Y_Acts_keep.2.1 19 = .ok (.goto 20, 3) := by decide +kernel
theorem d_Acts_keep_22 : decode Y_Acts_keep.2.1 22 = .ok (.aload_n 0, 1) := by decide +kernel
theorem d_Acts_keep_23 : decode Y_Acts_keep.2.1 23 = .ok (.getfield 11, 3) := by decide +kernel
theorem d_Acts_keep_26 : decode Y_Acts_keep.2.1 26 = .ok (.bipush 8, 2) := by decide +kernel
theorem d_Acts_keep_28 : decode Y_Acts_keep.2.1 28 = .ok (.aload_n 0, 1) := by decide +kernel
theorem d_Acts_keep_29 : decode Y_Acts_keep.2.1 29 = .ok (.getfield 11, 3) := by decide +kernel
theorem d_Acts_keep_32 : decode Y_Acts_keep.2.1 32 = .ok (.iconst 0, 1) := by decide +kernel
theorem d_Acts_keep_33 : decode Y_Acts_keep.2.1 33 = .ok (.sipush 320, 3) := by decide +kernel
theorem d_Acts_keep_36 : decode Y_Acts_keep.2.1 36 = .ok (.invokestatic 22, 3) := by decide +kernel
theorem d_Acts_keep_39 : decode Y_Acts_keep.2.1 39 = .ok (.aload_n 0, 1) := by decide +kernel
theorem d_Acts_keep_40 : decode Y_Acts_keep.2.1 40 = .ok (.aload_n 0, 1) := by decide +kernel
theorem d_Acts_keep_41 : decode Y_Acts_keep.2.1 41 = .ok (.getfield 15, 3) := by decide +kernel
theorem d_Acts_keep_44 : decode Y_Acts_keep.2.1 44 = .ok (.putfield 19, 3) := by decide +kernel
theorem d_Acts_keep_47 : decode Y_Acts_keep.2.1 47 = .ok (.aload_n 1, 1) := by decide +kernel
theorem d_Acts_keep_48 : decode Y_Acts_keep.2.1 48 = .ok (.iconst 0, 1) := by decide +kernel
theorem d_Acts_keep_49 : decode Y_Acts_keep.2.1 49 = .ok (.aload_n 0, 1) := by decide +kernel
theorem d_Acts_keep_50 : decode Y_Acts_keep.2.1 50 = .ok (.getfield 11, 3) := by decide +kernel
theorem d_Acts_keep_53 : decode Y_Acts_keep.2.1 53 = .ok (.aload_n 0, 1) := by decide +kernel
theorem d_Acts_keep_54 : decode Y_Acts_keep.2.1 54 = .ok (.getfield 15, 3) := by decide +kernel
theorem d_Acts_keep_57 : decode Y_Acts_keep.2.1 57 = .ok (.bipush 8, 2) := by decide +kernel
theorem d_Acts_keep_59 : decode Y_Acts_keep.2.1 59 = .ok (.imul, 1) := by decide +kernel
theorem d_Acts_keep_60 : decode Y_Acts_keep.2.1 60 = .ok (.bipush 8, 2) := by decide +kernel
theorem d_Acts_keep_62 : decode Y_Acts_keep.2.1 62 = .ok (.invokestatic 22, 3) := by decide +kernel
theorem d_Acts_keep_65 : decode Y_Acts_keep.2.1 65 = .ok (.return_, 1) := by decide +kernel
theorem e_Acts_keep {l : Launch} {G : GT} {d : Nat} {P : MM → Prop} {m : MM} (h1 : Nat) (n1 : Nat) (hl1 : q_lay h1 = .inr (0, n1)) (hlt_h1 : n1 < 2147483648) (hd1 : 1 ≤ d) (H : wfM m → ((m 28 1) ≥ 40 → (((0 : Int) ≤ 8 ∧ (0 : Int) ≤ 0 ∧ (0 : Int) < 320 ∧ (8 : Int) + 320 ≤ (328 : Nat) ∧ (0 : Int) + 320 ≤ (328 : Nat)) ∧ (∀ m6, m6 = upC m 29 29 8 0 320 → (∀ m11, m11 = up m6 28 2 (m6 28 1) → ((inR ((m11 28 1) * 8)) ∧ (((0 : Int) ≤ 0 ∧ (0 : Int) ≤ ((m11 28 1) * 8) ∧ (0 : Int) < 8 ∧ (0 : Int) + 8 ≤ (n1 : Nat) ∧ (((m11 28 1) * 8) : Int) + 8 ≤ (328 : Nat)) ∧ (∀ m16, m16 = upC m11 h1 29 0 ((m11 28 1) * 8) 8 → (P m16)))))))) ∧ (¬ ((m 28 1) ≥ 40) → ((inR ((m 28 1) + 1)) ∧ (∀ m23, m23 = up m 28 1 ((m 28 1) + 1) → (∀ m26, m26 = up m23 28 2 (m23 28 1) → ((inR ((m26 28 1) * 8)) ∧ (((0 : Int) ≤ 0 ∧ (0 : Int) ≤ ((m26 28 1) * 8) ∧ (0 : Int) < 8 ∧ (0 : Int) + 8 ≤ (n1 : Nat) ∧ (((m26 28 1) * 8) : Int) + 8 ≤ (328 : Nat)) ∧ (∀ m31, m31 = upC m26 h1 29 0 ((m26 28 1) * 8) 8 → (P m31))))))))) : CV l G Y_Acts_keep d [.inr (.inr 28), .inr (.inr h1)] m P := by
  refine CV.of [(0, .inr (.inr 28)), (1, .inr (.inr h1))] k_Acts_keep.1 (Nat.le_of_ble_eq_true rfl) rfl (Wp.wf (fun hw _ hl hs => ?_))
  have H0 := H hw
  refine Wp.aload_n 0 0 d_Acts_keep_0 rfl rfl ?_
  refine Wq.getI 1 rfl d_Acts_keep_1 fl_Acts_15 rfl (Or.inl rfl) ?_
  refine Wp.bipush d_Acts_keep_4 (by decide) (by decide) ?_
  obtain ⟨H2, H3⟩ := H0
  refine Wp.icmp_ge 22 d_Acts_keep_6 (by decide) (fun c1 => ?_) (fun c1 => ?_)
  · have H4 := H2 c1
    refine Wp.aload_n 0 0 d_Acts_keep_22 rfl rfl ?_
    refine Wp.getP 29 d_Acts_keep_23 fl_Acts_11 rfl rfl rfl ?_
    refine Wp.bipush d_Acts_keep_26 (by decide) (by decide) ?_
    refine Wp.aload_n 0 0 d_Acts_keep_28 rfl rfl ?_
    refine Wp.getP 29 d_Acts_keep_29 fl_Acts_11 rfl rfl rfl ?_
    refine Wp.iconst d_Acts_keep_32 (by decide) ?_
    refine Wp.sipush d_Acts_keep_33 (by decide) (by decide) ?_
    obtain ⟨s10, H9⟩ := H4
    refine Wq.acopy d_Acts_keep_36 ml_Acts_22 rfl rfl (by decide) (by decide) hd1 (fun h => by cases h) (Nat.le_of_ble_eq_true rfl) s10 (fun m6 hm7 => ?_)
    have H8 := H9 m6 hm7
    refine Wp.aload_n 0 0 d_Acts_keep_39 rfl rfl ?_
    refine Wp.aload_n 0 0 d_Acts_keep_40 rfl rfl ?_
    refine Wq.getI 1 rfl d_Acts_keep_41 fl_Acts_15 rfl (Or.inl rfl) ?_
    refine Wq.putI 2 rfl d_Acts_keep_44 fl_Acts_19 (fun _ _ _ h => by cases h; rfl) rfl rfl rfl (fun m11 hm12 => ?_)
    have H13 := H8 m11 hm12
    refine Wp.aload_n 1 1 d_Acts_keep_47 rfl rfl ?_
    refine Wp.iconst d_Acts_keep_48 (by decide) ?_
    refine Wp.aload_n 0 0 d_Acts_keep_49 rfl rfl ?_
    refine Wp.getP 29 d_Acts_keep_50 fl_Acts_11 rfl rfl rfl ?_
    refine Wp.aload_n 0 0 d_Acts_keep_53 rfl rfl ?_
    refine Wq.getI 1 rfl d_Acts_keep_54 fl_Acts_15 rfl (Or.inl rfl) ?_
    refine Wp.bipush d_Acts_keep_57 (by decide) (by decide) ?_
    obtain ⟨s14, H15⟩ := H13
    refine Wp.imul d_Acts_keep_59 s14 ?_
    refine Wp.bipush d_Acts_keep_60 (by decide) (by decide) ?_
    obtain ⟨s20, H19⟩ := H15
    refine Wq.acopy d_Acts_keep_62 ml_Acts_22 hl1 rfl hlt_h1 (by decide) hd1 (fun h => by cases h) (Nat.le_of_ble_eq_true rfl) s20 (fun m16 hm17 => ?_)
    have H18 := H19 m16 hm17
    exact Wq.vret d_Acts_keep_65 rfl H18
  · have H5 := H3 c1
    refine Wp.aload_n 0 0 d_Acts_keep_9 rfl rfl ?_
    refine Wp.dup d_Acts_keep_10 rfl ?_
    refine Wq.getI 1 rfl d_Acts_keep_11 fl_Acts_15 rfl (Or.inl rfl) ?_
    refine Wp.iconst d_Acts_keep_14 (by decide) ?_
    obtain ⟨s21, H22⟩ := H5
    refine Wp.iadd d_Acts_keep_15 s21 ?_
    refine Wq.putI 1 rfl d_Acts_keep_16 fl_Acts_15 (fun _ _ _ h => by cases h; rfl) rfl rfl rfl (fun m23 hm24 => ?_)
    have H25 := H22 m23 hm24
    refine Wp.goto 39 d_Acts_keep_19 (by decide) ?_
    refine Wp.aload_n 0 0 d_Acts_keep_39 rfl rfl ?_
    refine Wp.aload_n 0 0 d_Acts_keep_40 rfl rfl ?_
    refine Wq.getI 1 rfl d_Acts_keep_41 fl_Acts_15 rfl (Or.inl rfl) ?_
    refine Wq.putI 2 rfl d_Acts_keep_44 fl_Acts_19 (fun _ _ _ h => by cases h; rfl) rfl rfl rfl (fun m26 hm27 => ?_)
    have H28 := H25 m26 hm27
    refine Wp.aload_n 1 1 d_Acts_keep_47 rfl rfl ?_
    refine Wp.iconst d_Acts_keep_48 (by decide) ?_
    refine Wp.aload_n 0 0 d_Acts_keep_49 rfl rfl ?_
    refine Wp.getP 29 d_Acts_keep_50 fl_Acts_11 rfl rfl rfl ?_
    refine Wp.aload_n 0 0 d_Acts_keep_53 rfl rfl ?_
    refine Wq.getI 1 rfl d_Acts_keep_54 fl_Acts_15 rfl (Or.inl rfl) ?_
    refine Wp.bipush d_Acts_keep_57 (by decide) (by decide) ?_
    obtain ⟨s29, H30⟩ := H28
    refine Wp.imul d_Acts_keep_59 s29 ?_
    refine Wp.bipush d_Acts_keep_60 (by decide) (by decide) ?_
    obtain ⟨s35, H34⟩ := H30
    refine Wq.acopy d_Acts_keep_62 ml_Acts_22 hl1 rfl hlt_h1 (by decide) hd1 (fun h => by cases h) (Nat.le_of_ble_eq_true rfl) s35 (fun m31 hm32 => ?_)
    have H33 := H34 m31 hm32
    exact Wq.vret d_Acts_keep_65 rfl H33
theorem d_Acts_goBack_0 : decode Y_Acts_goBack.2.1 0 = .ok (.aload_n 0, 1) := by decide +kernel
theorem d_Acts_goBack_1 : decode Y_Acts_goBack.2.1 1 = .ok (.getfield 15, 3) := by decide +kernel
theorem d_Acts_goBack_4 : decode Y_Acts_goBack.2.1 4 = .ok (.ifCond .gt 5, 3) := by decide +kernel
theorem d_Acts_goBack_7 : decode Y_Acts_goBack.2.1 7 = .ok (.iconst 0, 1) := by decide +kernel
theorem d_Acts_goBack_8 : decode Y_Acts_goBack.2.1 8 = .ok (.ireturn, 1) := by decide +kernel
theorem d_Acts_goBack_9 : decode Y_Acts_goBack.2.1 9 = .ok (.aload_n 0, 1) := by decide +kernel
theorem d_Acts_goBack_10 : decode Y_Acts_goBack.2.1 10 = .ok (.dup, 1) := by decide +kernel
theorem d_Acts_goBack_11 : decode Y_Acts_goBack.2.1 11 = .ok (.getfield 15, 3) := by decide +kernel
theorem d_Acts_goBack_14 : decode Y_Acts_goBack.2.1 14 = .ok (.iconst 1, 1) := by decide +kernel
theorem d_Acts_goBack_15 : decode Y_Acts_goBack.2.1 15 = .ok (.isub, 1) := by decide +kernel
theorem d_Acts_goBack_16 : decode Y_Acts_goBack.2.1 16 = .ok (.putfield 15, 3) := by decide +kernel
theorem d_Acts_goBack_19 : decode Y_Acts_goBack.2.1 19 = .ok (.aload_n 0, 1) := by decide +kernel
theorem d_Acts_goBack_20 : decode Y_Acts_goBack.2.1 20 = .ok (.getfield 11, 3) := by decide +kernel
theorem d_Acts_goBack_23 : decode Y_Acts_goBack.2.1 23 = .ok (.aload_n 0, 1) := by decide +kernel
theorem d_Acts_goBack_24 : decode Y_Acts_goBack.2.1 24 = .ok (.getfield 15, 3) := by decide +kernel
theorem d_Acts_goBack_27 : decode Y_Acts_goBack.2.1 27 = .ok (.bipush 8, 2) := by decide +kernel
theorem d_Acts_goBack_29 : decode Y_Acts_goBack.2.1 29 = .ok (.imul, 1) := by decide +kernel
theorem d_Acts_goBack_30 : decode Y_Acts_goBack.2.1 30 = .ok (.aload_n 1, 1) := by decide +kernel
theorem d_Acts_goBack_31 : decode Y_Acts_goBack.2.1 31 = .ok (.iconst 0, 1) := by decide +kernel
theorem d_Acts_goBack_32 : decode Y_Acts_goBack.2.1 32 = .ok (.bipush 8, 2) := by decide +kernel
theorem d_Acts_goBack_34 : decode Y_Acts_goBack.2.1 34 = .ok (.invokestatic 22, 3) := by decide +kernel
theorem d_Acts_goBack_37 : decode Y_Acts_goBack.2.1 37 = .ok (.iconst 1, 1) := by decide +kernel
theorem d_Acts_goBack_38 : decode Y_Acts_goBack.2.1 38 = .ok (.ireturn, 1) := by decide +kernel
theorem e_Acts_goBack {l : Launch} {G : GT} {d : Nat} {P : Int → MM → Prop} {m : MM} (h1 : Nat) (n1 : Nat) (hl1 : q_lay h1 = .inr (0, n1)) (hlt_h1 : n1 < 2147483648) (hd1 : 1 ≤ d) (H : wfM m → ((m 28 1) > 0 → ((inR ((m 28 1) - 1)) ∧ (∀ m8, m8 = up m 28 1 ((m 28 1) - 1) → ((inR ((m8 28 1) * 8)) ∧ (((0 : Int) ≤ ((m8 28 1) * 8) ∧ (0 : Int) ≤ 0 ∧ (0 : Int) < 8 ∧ (((m8 28 1) * 8) : Int) + 8 ≤ (328 : Nat) ∧ (0 : Int) + 8 ≤ (n1 : Nat)) ∧ (∀ m13, m13 = upC m8 29 h1 ((m8 28 1) * 8) 0 8 → (P 1 m13))))))) ∧ (¬ ((m 28 1) > 0) → (P 0 m))) : CI l G Y_Acts_goBack d [.inr (.inr 28), .inr (.inr h1)] m P := by
  refine CI.of [(0, .inr (.inr 28)), (1, .inr (.inr h1))] k_Acts_goBack.1 (Nat.le_of_ble_eq_true rfl) rfl (Wp.wf (fun hw _ hl hs => ?_))
  have H0 := H hw
  refine Wp.aload_n 0 0 d_Acts_goBack_0 rfl rfl ?_
  refine Wq.getI 1 rfl d_Acts_goBack_1 fl_Acts_15 rfl (Or.inl rfl) ?_
  obtain ⟨H2, H3⟩ := H0
  refine Wp.if_gt 9 d_Acts_goBack_4 (by decide) (fun c1 => ?_) (fun c1 => ?_)
  · have H4 := H2 c1
    refine Wp.aload_n 0 0 d_Acts_goBack_9 rfl rfl ?_
    refine Wp.dup d_Acts_goBack_10 rfl ?_
    refine Wq.getI 1 rfl d_Acts_goBack_11 fl_Acts_15 rfl (Or.inl rfl) ?_
    refine Wp.iconst d_Acts_goBack_14 (by decide) ?_
    obtain ⟨s6, H7⟩ := H4
    refine Wp.isub d_Acts_goBack_15 s6 ?_
    refine Wq.putI 1 rfl d_Acts_goBack_16 fl_Acts_15 (fun _ _ _ h => by cases h; rfl) rfl rfl rfl (fun m8 hm9 => ?_)
    have H10 := H7 m8 hm9
    refine Wp.aload_n 0 0 d_Acts_goBack_19 rfl rfl ?_
    refine Wp.getP 29 d_Acts_goBack_20 fl_Acts_11 rfl rfl rfl ?_
    refine Wp.aload_n 0 0 d_Acts_goBack_23 rfl rfl ?_
    refine Wq.getI 1 rfl d_Acts_goBack_24 fl_Acts_15 rfl (Or.inl rfl) ?_
    refine Wp.bipush d_Acts_goBack_27 (by decide) (by decide) ?_
    obtain ⟨s11, H12⟩ := H10
    refine Wp.imul d_Acts_goBack_29 s11 ?_
    refine Wp.aload_n 1 1 d_Acts_goBack_30 rfl rfl ?_
    refine Wp.iconst d_Acts_goBack_31 (by decide) ?_
    refine Wp.bipush d_Acts_goBack_32 (by decide) (by decide) ?_
    obtain ⟨s17, H16⟩ := H12
    refine Wq.acopy d_Acts_goBack_34 ml_Acts_22 rfl hl1 (by decide) hlt_h1 hd1 (fun h => by cases h) (Nat.le_of_ble_eq_true rfl) s17 (fun m13 hm14 => ?_)
    have H15 := H16 m13 hm14
    refine Wp.iconst d_Acts_goBack_37 (by decide) ?_
    exact Wq.zret d_Acts_goBack_38 rfl (by decide) H15
  · have H5 := H3 c1
    refine Wp.iconst d_Acts_goBack_7 (by decide) ?_
    exact Wq.zret d_Acts_goBack_8 rfl (by decide) H5
theorem d_Acts_goOn_0 : decode Y_Acts_goOn.2.1 0 = .ok (.aload_n 0, 1) := by decide +kernel
theorem d_Acts_goOn_1 : decode Y_Acts_goOn.2.1 1 = .ok (.getfield 15, 3) := by decide +kernel
theorem d_Acts_goOn_4 : decode Y_Acts_goOn.2.1 4 = .ok (.aload_n 0, 1) := by decide +kernel
theorem d_Acts_goOn_5 : decode Y_Acts_goOn.2.1 5 = .ok (.getfield 19, 3) := by decide +kernel
theorem d_Acts_goOn_8 : decode Y_Acts_goOn.2.1 8 = .ok (.if_icmp .lt 5, 3) := by decide +kernel
theorem d_Acts_goOn_11 : decode Y_Acts_goOn.2.1 11 = .ok (.iconst 0, 1) := by decide +kernel
theorem d_Acts_goOn_12 : decode Y_Acts_goOn.2.1 12 = .ok (.ireturn, 1) := by decide +kernel
theorem d_Acts_goOn_13 : decode Y_Acts_goOn.2.1 13 = .ok (.aload_n 0, 1) := by decide +kernel
theorem d_Acts_goOn_14 : decode Y_Acts_goOn.2.1 14 = .ok (.dup, 1) := by decide +kernel
theorem d_Acts_goOn_15 : decode Y_Acts_goOn.2.1 15 = .ok (.getfield 15, 3) := by decide +kernel
theorem d_Acts_goOn_18 : decode Y_Acts_goOn.2.1 18 = .ok (.iconst 1, 1) := by decide +kernel
theorem d_Acts_goOn_19 : decode Y_Acts_goOn.2.1 19 = .ok (.iadd, 1) := by decide +kernel
theorem d_Acts_goOn_20 : decode Y_Acts_goOn.2.1 20 = .ok (.putfield 15, 3) := by decide +kernel
theorem d_Acts_goOn_23 : decode Y_Acts_goOn.2.1 23 = .ok (.aload_n 0, 1) := by decide +kernel
theorem d_Acts_goOn_24 : decode Y_Acts_goOn.2.1 24 = .ok (.getfield 11, 3) := by decide +kernel
theorem d_Acts_goOn_27 : decode Y_Acts_goOn.2.1 27 = .ok (.aload_n 0, 1) := by decide +kernel
theorem d_Acts_goOn_28 : decode Y_Acts_goOn.2.1 28 = .ok (.getfield 15, 3) := by decide +kernel
theorem d_Acts_goOn_31 : decode Y_Acts_goOn.2.1 31 = .ok (.bipush 8, 2) := by decide +kernel
theorem d_Acts_goOn_33 : decode Y_Acts_goOn.2.1 33 = .ok (.imul, 1) := by decide +kernel
theorem d_Acts_goOn_34 : decode Y_Acts_goOn.2.1 34 = .ok (.aload_n 1, 1) := by decide +kernel
theorem d_Acts_goOn_35 : decode Y_Acts_goOn.2.1 35 = .ok (.iconst 0, 1) := by decide +kernel
theorem d_Acts_goOn_36 : decode Y_Acts_goOn.2.1 36 = .ok (.bipush 8, 2) := by decide +kernel
theorem d_Acts_goOn_38 : decode Y_Acts_goOn.2.1 38 = .ok (.invokestatic 22, 3) := by decide +kernel
theorem d_Acts_goOn_41 : decode Y_Acts_goOn.2.1 41 = .ok (.iconst 1, 1) := by decide +kernel
theorem d_Acts_goOn_42 : decode Y_Acts_goOn.2.1 42 = .ok (.ireturn, 1) := by decide +kernel
theorem e_Acts_goOn {l : Launch} {G : GT} {d : Nat} {P : Int → MM → Prop} {m : MM} (h1 : Nat) (n1 : Nat) (hl1 : q_lay h1 = .inr (0, n1)) (hlt_h1 : n1 < 2147483648) (hd1 : 1 ≤ d) (H : wfM m → ((m 28 1) < (m 28 2) → ((inR ((m 28 1) + 1)) ∧ (∀ m8, m8 = up m 28 1 ((m 28 1) + 1) → ((inR ((m8 28 1) * 8)) ∧ (((0 : Int) ≤ ((m8 28 1) * 8) ∧ (0 : Int) ≤ 0 ∧ (0 : Int) < 8 ∧ (((m8 28 1) * 8) : Int) + 8 ≤ (328 : Nat) ∧ (0 : Int) + 8 ≤ (n1 : Nat)) ∧ (∀ m13, m13 = upC m8 29 h1 ((m8 28 1) * 8) 0 8 → (P 1 m13))))))) ∧ (¬ ((m 28 1) < (m 28 2)) → (P 0 m))) : CI l G Y_Acts_goOn d [.inr (.inr 28), .inr (.inr h1)] m P := by
  refine CI.of [(0, .inr (.inr 28)), (1, .inr (.inr h1))] k_Acts_goOn.1 (Nat.le_of_ble_eq_true rfl) rfl (Wp.wf (fun hw _ hl hs => ?_))
  have H0 := H hw
  refine Wp.aload_n 0 0 d_Acts_goOn_0 rfl rfl ?_
  refine Wq.getI 1 rfl d_Acts_goOn_1 fl_Acts_15 rfl (Or.inl rfl) ?_
  refine Wp.aload_n 0 0 d_Acts_goOn_4 rfl rfl ?_
  refine Wq.getI 2 rfl d_Acts_goOn_5 fl_Acts_19 rfl (Or.inl rfl) ?_
  obtain ⟨H2, H3⟩ := H0
  refine Wp.icmp_lt 13 d_Acts_goOn_8 (by decide) (fun c1 => ?_) (fun c1 => ?_)
  · have H4 := H2 c1
    refine Wp.aload_n 0 0 d_Acts_goOn_13 rfl rfl ?_
    refine Wp.dup d_Acts_goOn_14 rfl ?_
    refine Wq.getI 1 rfl d_Acts_goOn_15 fl_Acts_15 rfl (Or.inl rfl) ?_
    refine Wp.iconst d_Acts_goOn_18 (by decide) ?_
    obtain ⟨s6, H7⟩ := H4
    refine Wp.iadd d_Acts_goOn_19 s6 ?_
    refine Wq.putI 1 rfl d_Acts_goOn_20 fl_Acts_15 (fun _ _ _ h => by cases h; rfl) rfl rfl rfl (fun m8 hm9 => ?_)
    have H10 := H7 m8 hm9
    refine Wp.aload_n 0 0 d_Acts_goOn_23 rfl rfl ?_
    refine Wp.getP 29 d_Acts_goOn_24 fl_Acts_11 rfl rfl rfl ?_
    refine Wp.aload_n 0 0 d_Acts_goOn_27 rfl rfl ?_
    refine Wq.getI 1 rfl d_Acts_goOn_28 fl_Acts_15 rfl (Or.inl rfl) ?_
    refine Wp.bipush d_Acts_goOn_31 (by decide) (by decide) ?_
    obtain ⟨s11, H12⟩ := H10
    refine Wp.imul d_Acts_goOn_33 s11 ?_
    refine Wp.aload_n 1 1 d_Acts_goOn_34 rfl rfl ?_
    refine Wp.iconst d_Acts_goOn_35 (by decide) ?_
    refine Wp.bipush d_Acts_goOn_36 (by decide) (by decide) ?_
    obtain ⟨s17, H16⟩ := H12
    refine Wq.acopy d_Acts_goOn_38 ml_Acts_22 rfl hl1 (by decide) hlt_h1 hd1 (fun h => by cases h) (Nat.le_of_ble_eq_true rfl) s17 (fun m13 hm14 => ?_)
    have H15 := H16 m13 hm14
    refine Wp.iconst d_Acts_goOn_41 (by decide) ?_
    exact Wq.zret d_Acts_goOn_42 rfl (by decide) H15
  · have H5 := H3 c1
    refine Wp.iconst d_Acts_goOn_11 (by decide) ?_
    exact Wq.zret d_Acts_goOn_12 rfl (by decide) H5
theorem d_Formula_clear_0 : decode Y_Formula_clear.2.1 0 = .ok (.aload_n 0, 1) := by decide +kernel
theorem d_Formula_clear_1 : decode Y_Formula_clear.2.1 1 = .ok (.iconst 0, 1) := by decide +kernel
theorem d_Formula_clear_2 : decode Y_Formula_clear.2.1 2 = .ok (.putfield 16, 3) := by decide +kernel
theorem d_Formula_clear_5 : decode Y_Formula_clear.2.1 5 = .ok (.return_, 1) := by decide +kernel
theorem e_Formula_clear {l : Launch} {G : GT} {d : Nat} {P : MM → Prop} {m : MM} (a : Nat) (ha : isF a) (H : wfM m → ∀ m1, m1 = up m a 2 0 → (P m1)) : CV l G Y_Formula_clear d [.inr (.inr a)] m P := by
  refine CV.of [(0, .inr (.inr a))] k_Formula_clear.1 (Nat.le_of_ble_eq_true rfl) rfl (Wp.wf (fun hw _ hl hs => ?_))
  have H0 := H hw
  refine Wp.aload_n 0 0 d_Formula_clear_0 rfl rfl ?_
  refine Wp.iconst d_Formula_clear_1 (by decide) ?_
  refine Wq.putI 2 rfl d_Formula_clear_2 fl_Formula_16 (fun _ _ _ h => by cases h; rfl) (isF_lay ha) (isF_n2 ha) rfl (fun m1 hm2 => ?_)
  have H3 := H0 m1 hm2
  exact Wq.vret d_Formula_clear_5 rfl H3
theorem d_Formula_add_0 : decode Y_Formula_add.2.1 0 = .ok (.aload_n 0, 1) := by decide +kernel
theorem d_Formula_add_1 : decode Y_Formula_add.2.1 1 = .ok (.getfield 16, 3) := by decide +kernel
theorem d_Formula_add_4 : decode Y_Formula_add.2.1 4 = .ok (.sipush 300, 3) := by decide +kernel
theorem d_Formula_add_7 : decode Y_Formula_add.2.1 7 = .ok (.if_icmp .ge 23, 3) := by decide +kernel
theorem d_Formula_add_10 : decode Y_Formula_add.2.1 10 = .ok (.aload_n 0, 1) := by decide +kernel
theorem d_Formula_add_11 : decode Y_Formula_add.2.1 11 = .ok (.getfield 9, 3) := by decide +kernel
theorem d_Formula_add_14 : decode Y_Formula_add.2.1 14 = .ok (.aload_n 0, 1) := by decide +kernel
theorem d_Formula_add_15 : decode Y_Formula_add.2.1 15 = .ok (.getfield 16, 3) := by decide +kernel
theorem d_Formula_add_18 : decode Y_Formula_add.2.1 18 = .ok (.iload_n 1, 1) := by decide +kernel
theorem d_Formula_add_19 : decode Y_Formula_add.2.1 19 = .ok (.iastore, 1) := by decide +kernel
theorem d_Formula_add_20 : decode Y_Formula_add.2.1 20 = .ok (.aload_n 0, 1) := by decide +kernel
theorem d_Formula_add_21 : decode Y_Formula_add.2.1 21 = .ok (.dup, 1) := by decide +kernel
theorem d_Formula_add_22 : decode Y_Formula_add.2.1 22 = .ok (.getfield 16, 3) := by decide +kernel
theorem d_Formula_add_25 : decode Y_Formula_add.2.1 25 = .ok (.iconst 1, 1) := by decide +kernel
theorem d_Formula_add_26 : decode Y_Formula_add.2.1 26 = .ok (.iadd, 1) := by decide +kernel
theorem d_Formula_add_27 : decode Y_Formula_add.2.1 27 = .ok (.putfield 16, 3) := by decide +kernel
theorem d_Formula_add_30 : decode Y_Formula_add.2.1 30 = .ok (.return_, 1) := by decide +kernel
theorem e_Formula_add {l : Launch} {G : GT} {d : Nat} {P : MM → Prop} {m : MM} (x1 : Int) (a : Nat) (ha : isF a) (H : wfM m → inR x1 → ((m a 2) ≥ 300 → (P m)) ∧ (¬ ((m a 2) ≥ 300) → ((0 ≤ (m a 2) ∧ (m a 2) < (300 : Int)) ∧ (∀ m6, m6 = up m (a + 1) (m a 2) x1 → ((inR ((m6 a 2) + 1)) ∧ (∀ m13, m13 = up m6 a 2 ((m6 a 2) + 1) → (P m13))))))) : CV l G Y_Formula_add d [.inr (.inr a), .inl x1] m P := by
  refine CV.of [(0, .inr (.inr a)), (1, .inl x1)] k_Formula_add.1 (Nat.le_of_ble_eq_true rfl) rfl (Wp.wf (fun hw _ hl hs => ?_))
  have H0 := H hw (hl _ (List.mem_of_getElem? (i := 1) rfl))
  refine Wp.aload_n 0 0 d_Formula_add_0 rfl rfl ?_
  refine Wq.getI 2 rfl d_Formula_add_1 fl_Formula_16 (isF_lay ha) (Or.inl rfl) ?_
  refine Wp.sipush d_Formula_add_4 (by decide) (by decide) ?_
  obtain ⟨H2, H3⟩ := H0
  refine Wp.icmp_ge 30 d_Formula_add_7 (by decide) (fun c1 => ?_) (fun c1 => ?_)
  · have H4 := H2 c1
    exact Wq.vret d_Formula_add_30 rfl H4
  · have H5 := H3 c1
    refine Wp.aload_n 0 0 d_Formula_add_10 rfl rfl ?_
    refine Wp.getP (a + 1) d_Formula_add_11 fl_Formula_9 (isF_lay ha) rfl (isF_p0 ha) ?_
    refine Wp.aload_n 0 0 d_Formula_add_14 rfl rfl ?_
    refine Wq.getI 2 rfl d_Formula_add_15 fl_Formula_16 (isF_lay ha) (Or.inl rfl) ?_
    refine Wp.iload_n 1 1 d_Formula_add_18 rfl rfl ?_
    obtain ⟨s16, H17⟩ := H5
    refine Wq.iast d_Formula_add_19 (isF_l0 ha) s16.1 s16.2 (fun m6 hm7 => ?_)
    have H8 := H17 m6 hm7
    refine Wp.aload_n 0 0 d_Formula_add_20 rfl rfl ?_
    refine Wp.dup d_Formula_add_21 rfl ?_
    refine Wq.getI 2 rfl d_Formula_add_22 fl_Formula_16 (isF_lay ha) (Or.inl rfl) ?_
    refine Wp.iconst d_Formula_add_25 (by decide) ?_
    obtain ⟨s11, H12⟩ := H8
    refine Wp.iadd d_Formula_add_26 s11 ?_
    refine Wq.putI 2 rfl d_Formula_add_27 fl_Formula_16 (fun _ _ _ h => by cases h; rfl) (isF_lay ha) (isF_n2 ha) rfl (fun m13 hm14 => ?_)
    have H15 := H12 m13 hm14
    exact Wq.vret d_Formula_add_30 rfl H15
theorem d_Formula_worth_0 : decode Y_Formula_worth.2.1 0 = .ok (.iconst 0, 1) := by decide +kernel
theorem d_Formula_worth_1 : decode Y_Formula_worth.2.1 1 = .ok (.istore 5, 2) := by decide +kernel
theorem d_Formula_worth_3 : decode Y_Formula_worth.2.1 3 = .ok (.iconst 0, 1) := by decide +kernel
theorem d_Formula_worth_4 : decode Y_Formula_worth.2.1 4 = .ok (.istore 6, 2) := by decide +kernel
theorem d_Formula_worth_6 : decode Y_Formula_worth.2.1 6 = .ok (.iload 6, 2) := by decide +kernel
theorem d_Formula_worth_8 : decode Y_Formula_worth.2.1 8 = .ok (.aload_n 0, 1) := by decide +kernel
theorem d_Formula_worth_9 : decode Y_Formula_worth.2.1 9 = .ok (.getfield 16, 3) := by decide +kernel
theorem d_Formula_worth_12 : decode Y_Formula_worth.2.1 12 = .ok (.if_icmp .ge 157, 3) := by decide +kernel
theorem d_Formula_worth_15 : decode Y_Formula_worth.2.1 15 = .ok (.aload_n 0, 1) := by decide +kernel
theorem d_Formula_worth_16 : decode Y_Formula_worth.2.1 16 = .ok (.getfield 9, 3) := by decide +kernel
theorem d_Formula_worth_19 : decode Y_Formula_worth.2.1 19 = .ok (.iload 6, 2) := by decide +kernel
theorem d_Formula_worth_21 : decode Y_Formula_worth.2.1 21 = .ok (.iaload, 1) := by decide +kernel
theorem d_Formula_worth_22 : decode Y_Formula_worth.2.1 22 = .ok (.istore 7, 2) := by decide +kernel
theorem d_Formula_worth_24 : decode Y_Formula_worth.2.1 24 = .ok (.iload 7, 2) := by decide +kernel
theorem d_Formula_worth_26 : decode Y_Formula_worth.2.1 26 = .ok (.sipush 10010, 3) := by decide +kernel
theorem d_Formula_worth_29 : decode Y_Formula_worth.2.1 29 = .ok (.if_icmp .ge 48, 3) := by decide +kernel
theorem d_Formula_worth_32 : decode Y_Formula_worth.2.1 32 = .ok (.iload 5, 2) := by decide +kernel
theorem d_Formula_worth_34 : decode Y_Formula_worth.2.1 34 = .ok (.bipush 40, 2) := by decide +kernel
theorem d_Formula_worth_36 : decode Y_Formula_worth.2.1 36 = .ok (.if_icmp .lt 5, 3) := by decide +kernel
theorem d_Formula_worth_39 : decode Y_Formula_worth.2.1 39 = .ok (.iconst 0, 1) := by decide +kernel
theorem d_Formula_worth_40 : decode Y_Formula_worth.2.1 40 = .ok (.ireturn, 1) := by decide +kernel
theorem d_Formula_worth_41 : decode Y_Formula_worth.2.1 41 = .ok (.aload_n 0, 1) := by decide +kernel
theorem d_Formula_worth_42 : decode Y_Formula_worth.2.1 42 = .ok (.getfield 13, 3) := by decide +kernel
theorem d_Formula_worth_45 : decode Y_Formula_worth.2.1 45 = .ok (.iload 5, 2) := by decide +kernel
theorem d_Formula_worth_47 : decode Y_Formula_worth.2.1 47 = .ok (.iload 7, 2) := by decide +kernel
theorem d_Formula_worth_49 : decode Y_Formula_worth.2.1 49 = .ok (.sipush 10000, 3) := by decide +kernel
theorem d_Formula_worth_52 : decode Y_Formula_worth.2.1 52 = .ok (.if_icmp .ge 8, 3) := by decide +kernel
theorem d_Formula_worth_55 : decode Y_Formula_worth.2.1 55 = .ok (.iload 7, 2) := by decide +kernel
theorem d_Formula_worth_57 : decode Y_Formula_worth.2.1 57 = .ok (.goto 13, 3) := by decide +kernel
theorem d_Formula_worth_60 : decode Y_Formula_worth.2.1 60 = .ok (.iload 7, 2) := by decide +kernel
theorem d_Formula_worth_62 : decode Y_Formula_worth.2.1 62 = .ok (.iload_n 1, 1) := by decide +kernel
theorem d_Formula_worth_63 : decode Y_Formula_worth.2.1 63 = .ok (.iload_n 2, 1) := by decide +kernel
theorem d_Formula_worth_64 : decode Y_Formula_worth.2.1 64 = .ok (.iload_n 3, 1) := by decide +kernel
theorem d_Formula_worth_65 : decode Y_Formula_worth.2.1 65 = .ok (.iload 4, 2) := by decide +kernel
theorem d_Formula_worth_67 : decode Y_Formula_worth.2.1 67 = .ok (.invokestatic 20, 3) := by decide +kernel
theorem d_Formula_worth_70 : decode Y_Formula_worth.2.1 70 = .ok (.iastore, 1) := by decide +kernel
theorem d_Formula_worth_71 : decode Y_Formula_worth.2.1 71 = .ok (.iinc 5 1, 3) := by decide +kernel
theorem d_Formula_worth_74 : decode Y_Formula_worth.2.1 74 = .ok (.goto 89, 3) := by decide +kernel
theorem d_Formula_worth_77 : decode Y_Formula_worth.2.1 77 = .ok (.iload 7, 2) := by decide +kernel
theorem d_Formula_worth_79 : decode Y_Formula_worth.2.1 79 = .ok (.sipush 10010, 3) := by decide +kernel
theorem d_Formula_worth_82 : decode Y_Formula_worth.2.1 82 = .ok (.if_icmp .ne 40, 3) := by decide +kernel
theorem d_Formula_worth_85 : decode Y_Formula_worth.2.1 85 = .ok (.iload 5, 2) := by decide +kernel
theorem d_Formula_worth_87 : decode Y_Formula_worth.2.1 87 = .ok (.iconst 1, 1) := by decide +kernel
theorem d_Formula_worth_88 : decode Y_Formula_worth.2.1 88 = .ok (.if_icmp .ge 5, 3) := by decide +kernel
theorem d_Formula_worth_91 : decode Y_Formula_worth.2.1 91 = .ok (.iconst 0, 1) := by decide +kernel
theorem d_Formula_worth_92 : decode Y_Formula_worth.2.1 92 = .ok (.ireturn, 1) := by decide +kernel
theorem d_Formula_worth_93 : decode Y_Formula_worth.2.1 93 = .ok (.aload_n 0, 1) := by decide +kernel
theorem d_Formula_worth_94 : decode Y_Formula_worth.2.1 94 = .ok (.getfield 13, 3) := by decide +kernel
theorem d_Formula_worth_97 : decode Y_Formula_worth.2.1 97 = .ok (.iload 5, 2) := by decide +kernel
theorem d_Formula_worth_99 : decode Y_Formula_worth.2.1 99 = .ok (.iconst 1, 1) := by decide +kernel
theorem d_Formula_worth_100 : decode Y_Formula_worth.2.1 100 = .ok (.isub, 1) := by decide +kernel
theorem d_Formula_worth_101 : decode Y_Formula_worth.2.1 101 = .ok (.aload_n 0, 1) := by decide +kernel
theorem d_Formula_worth_102 : decode Y_Formula_worth.2.1 102 = .ok (.getfield 13, 3) := by decide +kernel
theorem d_Formula_worth_105 : decode Y_Formula_worth.2.1 105 = .ok (.iload 5, 2) := by decide +kernel
theorem d_Formula_worth_107 : decode Y_Formula_worth.2.1 107 = .ok (.iconst 1, 1) := by decide +kernel
theorem d_Formula_worth_108 : decode Y_Formula_worth.2.1 108 = .ok (.isub, 1) := by decide +kernel
theorem d_Formula_worth_109 : decode Y_Formula_worth.2.1 109 = .ok (.iaload, 1) := by decide +kernel
theorem d_Formula_worth_110 : decode Y_Formula_worth.2.1 110 = .ok (.ifCond .ne 7, 3) := by decide +kernel
theorem d_Formula_worth_113 : decode Y_Formula_worth.2.1 113 = .ok (.iconst 1, 1) := by decide +kernel
theorem d_Formula_worth_114 : decode Y_Formula_worth.2.1 114 = .ok (.goto 4, 3) := by decide +kernel
theorem d_Formula_worth_117 : decode Y_Formula_worth.2.1 117 = .ok (.iconst 0, 1) := by decide +kernel
theorem d_Formula_worth_118 : decode Y_Formula_worth.2.1 118 = .ok (.iastore, 1) := by decide +kernel
theorem d_Formula_worth_119 : decode Y_Formula_worth.2.1 119 = .ok (.goto 44, 3) := by decide +kernel
theorem d_Formula_worth_122 : decode Y_Formula_worth.2.1 122 = .ok (.iload 5, 2) := by decide +kernel
theorem d_Formula_worth_124 : decode Y_Formula_worth.2.1 124 = .ok (.iconst 2, 1) := by decide +kernel
theorem d_Formula_worth_125 : decode Y_Formula_worth.2.1 125 = .ok (.if_icmp .ge 5, 3) := by decide +kernel
theorem d_Formula_worth_128 : decode Y_Formula_worth.2.1 128 = .ok (.iconst 0, 1) := by decide +kernel
theorem d_Formula_worth_129 : decode Y_Formula_worth.2.1 129 = .ok (.ireturn, 1) := by decide +kernel
theorem d_Formula_worth_130 : decode Y_Formula_worth.2.1 130 = .ok (.iinc 5 (-1), 3) := by decide +kernel
theorem d_Formula_worth_133 : decode Y_Formula_worth.2.1 133 = .ok (.aload_n 0, 1) := by decide +kernel
theorem d_Formula_worth_134 : decode Y_Formula_worth.2.1 134 = .ok (.getfield 13, 3) := by decide +kernel
theorem d_Formula_worth_137 : decode Y_Formula_worth.2.1 137 = .ok (.iload 5, 2) := by decide +kernel
theorem d_Formula_worth_139 : decode Y_Formula_worth.2.1 139 = .ok (.iconst 1, 1) := by decide +kernel
theorem d_Formula_worth_140 : decode Y_Formula_worth.2.1 140 = .ok (.isub, 1) := by decide +kernel
theorem d_Formula_worth_141 : decode Y_Formula_worth.2.1 141 = .ok (.iload 7, 2) := by decide +kernel
theorem d_Formula_worth_143 : decode Y_Formula_worth.2.1 143 = .ok (.aload_n 0, 1) := by decide +kernel
theorem d_Formula_worth_144 : decode Y_Formula_worth.2.1 144 = .ok (.getfield 13, 3) := by decide +kernel
theorem d_Formula_worth_147 : decode Y_Formula_worth.2.1 147 = .ok (.iload 5, 2) := by decide +kernel
theorem d_Formula_worth_149 : decode Y_Formula_worth.2.1 149 = .ok (.iconst 1, 1) := by decide +kernel
theorem d_Formula_worth_150 : decode Y_Formula_worth.2.1 150 = .ok (.isub, 1) := by decide +kernel
theorem d_Formula_worth_151 : decode Y_Formula_worth.2.1 151 = .ok (.iaload, 1) := by decide +kernel
theorem d_Formula_worth_152 : decode Y_Formula_worth.2.1 152 = .ok (.aload_n 0, 1) := by decide +kernel
theorem d_Formula_worth_153 : decode Y_Formula_worth.2.1 153 = .ok (.getfield 13, 3) := by decide +kernel
theorem d_Formula_worth_156 : decode Y_Formula_worth.2.1 156 = .ok (.iload 5, 2) := by decide +kernel
theorem d_Formula_worth_158 : decode Y_Formula_worth.2.1 158 = .ok (.iaload, 1) := by decide +kernel
theorem d_Formula_worth_159 : decode Y_Formula_worth.2.1 159 = .ok (.invokestatic 24, 3) := by decide +kernel
theorem d_Formula_worth_162 : decode Y_Formula_worth.2.1 162 = .ok (.iastore, 1) := by decide +kernel
theorem d_Formula_worth_163 : decode Y_Formula_worth.2.1 163 = .ok (.iinc 6 1, 3) := by decide +kernel
theorem d_Formula_worth_166 : decode Y_Formula_worth.2.1 166 = .ok (.goto (-160), 3) := by decide +kernel
theorem d_Formula_worth_169 : decode Y_Formula_worth.2.1 169 = .ok (.iload 5, 2) := by decide +kernel
theorem d_Formula_worth_171 : decode Y_Formula_worth.2.1 171 = .ok (.iconst 1, 1) := by decide +kernel
theorem d_Formula_worth_172 : decode Y_Formula_worth.2.1 172 = .ok (.if_icmp .ne 12, 3) := by decide +kernel
theorem d_Formula_worth_175 : decode Y_Formula_worth.2.1 175 = .ok (.aload_n 0, 1) := by decide +kernel
theorem d_Formula_worth_176 : decode Y_Formula_worth.2.1 176 = .ok (.getfield 13, 3) := by decide +kernel
theorem d_Formula_worth_179 : decode Y_Formula_worth.2.1 179 = .ok (.iconst 0, 1) := by decide +kernel
theorem d_Formula_worth_180 : decode Y_Formula_worth.2.1 180 = .ok (.iaload, 1) := by decide +kernel
theorem d_Formula_worth_181 : decode Y_Formula_worth.2.1 181 = .ok (.goto 4, 3) := by decide +kernel
theorem d_Formula_worth_184 : decode Y_Formula_worth.2.1 184 = .ok (.iconst 0, 1) := by decide +kernel
theorem d_Formula_worth_185 : decode Y_Formula_worth.2.1 185 = .ok (.ireturn, 1) := by decide +kernel
theorem e_Formula_worth {l : Launch} {G : GT} {d : Nat} {P : Int → MM → Prop} {m : MM} (x1 : Int) (x2 : Int) (x3 : Int) (x4 : Int) (a : Nat) (ha : isF a) (H : wfM m → inR x1 → inR x2 → inR x3 → inR x4 → Wq l G false Y_Formula_worth d (QI P) 6 [(0, .inr (.inr a)), (1, .inl x1), (2, .inl x2), (3, .inl x3), (4, .inl x4), (5, .inl 0), (6, .inl 0)] [] m) : CI l G Y_Formula_worth d [.inr (.inr a), .inl x1, .inl x2, .inl x3, .inl x4] m P := by
  refine CI.of [(0, .inr (.inr a)), (1, .inl x1), (2, .inl x2), (3, .inl x3), (4, .inl x4)] k_Formula_worth.1 (Nat.le_of_ble_eq_true rfl) rfl (Wp.wf (fun hw _ hl hs => ?_))
  have H0 := H hw (hl _ (List.mem_of_getElem? (i := 1) rfl)) (hl _ (List.mem_of_getElem? (i := 2) rfl)) (hl _ (List.mem_of_getElem? (i := 3) rfl)) (hl _ (List.mem_of_getElem? (i := 4) rfl))
  refine Wp.iconst d_Formula_worth_0 (by decide) ?_
  refine Wp.istore 5 [(0, .inr (.inr a)), (1, .inl x1), (2, .inl x2), (3, .inl x3), (4, .inl x4), (5, .inl 0)] d_Formula_worth_1 (by decide) rfl ?_
  refine Wp.iconst d_Formula_worth_3 (by decide) ?_
  refine Wp.istore 6 [(0, .inr (.inr a)), (1, .inl x1), (2, .inl x2), (3, .inl x3), (4, .inl x4), (5, .inl 0), (6, .inl 0)] d_Formula_worth_4 (by decide) rfl ?_
  exact H0
theorem s_Formula_worth_6 {l : Launch} {G : GT} {d : Nat} {P : Int → MM → Prop} {m : MM} (x1 : Int) (x2 : Int) (x3 : Int) (x4 : Int) (x5 : Int) (x6 : Int) (a : Nat) (ha : isF a) (H : wfM m → inR x1 → inR x2 → inR x3 → inR x4 → inR x5 → inR x6 → (x6 ≥ (m a 2) → ((x5 ≠ 1 → (P 0 m)) ∧ (¬ (x5 ≠ 1) → (P (m (a + 2) 0) m)))) ∧ (¬ (x6 ≥ (m a 2)) → ((0 ≤ x6 ∧ x6 < (300 : Int)) ∧ (((m (a + 1) x6) ≥ 10010 → (((m (a + 1) x6) ≠ 10010 → ((x5 ≥ 2 → ((inR (x5 + (-1))) ∧ ((inR ((x5 + (-1)) - 1)) ∧ ((inR ((x5 + (-1)) - 1)) ∧ ((0 ≤ ((x5 + (-1)) - 1) ∧ ((x5 + (-1)) - 1) < (40 : Int)) ∧ ((0 ≤ (x5 + (-1)) ∧ (x5 + (-1)) < (40 : Int)) ∧ (∃ (e38 : Nat) (P39 : Int → MM → Prop), e38 < d ∧ CI l G Y_Formula_joined e38 [.inl (m (a + 1) x6), .inl (m (a + 2) ((x5 + (-1)) - 1)), .inl (m (a + 2) (x5 + (-1)))] m P39 ∧ (∀ z44 m45, P39 z44 m45 → inR z44 → wfM m45 → ((0 ≤ ((x5 + (-1)) - 1) ∧ ((x5 + (-1)) - 1) < (40 : Int)) ∧ (∀ m49, m49 = up m45 (a + 2) ((x5 + (-1)) - 1) z44 → ((inR (x6 + 1)) ∧ (Wq l G false Y_Formula_worth d (QI P) 6 [(0, .inr (.inr a)), (1, .inl x1), (2, .inl x2), (3, .inl x3), (4, .inl x4), (5, .inl (x5 + (-1))), (6, .inl (x6 + 1))] [] m49)))))))))))) ∧ (¬ (x5 ≥ 2) → (P 0 m)))) ∧ (¬ ((m (a + 1) x6) ≠ 10010) → ((x5 ≥ 1 → ((inR (x5 - 1)) ∧ ((inR (x5 - 1)) ∧ ((0 ≤ (x5 - 1) ∧ (x5 - 1) < (40 : Int)) ∧ (((m (a + 2) (x5 - 1)) ≠ 0 → ((0 ≤ (x5 - 1) ∧ (x5 - 1) < (40 : Int)) ∧ (∀ m74, m74 = up m (a + 2) (x5 - 1) 0 → ((inR (x6 + 1)) ∧ (Wq l G false Y_Formula_worth d (QI P) 6 [(0, .inr (.inr a)), (1, .inl x1), (2, .inl x2), (3, .inl x3), (4, .inl x4), (5, .inl x5), (6, .inl (x6 + 1))] [] m74))))) ∧ (¬ ((m (a + 2) (x5 - 1)) ≠ 0) → ((0 ≤ (x5 - 1) ∧ (x5 - 1) < (40 : Int)) ∧ (∀ m83, m83 = up m (a + 2) (x5 - 1) 1 → ((inR (x6 + 1)) ∧ (Wq l G false Y_Formula_worth d (QI P) 6 [(0, .inr (.inr a)), (1, .inl x1), (2, .inl x2), (3, .inl x3), (4, .inl x4), (5, .inl x5), (6, .inl (x6 + 1))] [] m83)))))))))) ∧ (¬ (x5 ≥ 1) → (P 0 m)))))) ∧ (¬ ((m (a + 1) x6) ≥ 10010) → ((x5 < 40 → (((m (a + 1) x6) ≥ 10000 → (∃ (e102 : Nat) (P103 : Int → MM → Prop), e102 < d ∧ CI l G Y_Formula_named e102 [.inl (m (a + 1) x6), .inl x1, .inl x2, .inl x3, .inl x4] m P103 ∧ (∀ z108 m109, P103 z108 m109 → inR z108 → wfM m109 → ((0 ≤ x5 ∧ x5 < (40 : Int)) ∧ (∀ m113, m113 = up m109 (a + 2) x5 z108 → ((inR (x5 + 1)) ∧ ((inR (x6 + 1)) ∧ (Wq l G false Y_Formula_worth d (QI P) 6 [(0, .inr (.inr a)), (1, .inl x1), (2, .inl x2), (3, .inl x3), (4, .inl x4), (5, .inl (x5 + 1)), (6, .inl (x6 + 1))] [] m113)))))))) ∧ (¬ ((m (a + 1) x6) ≥ 10000) → ((0 ≤ x5 ∧ x5 < (40 : Int)) ∧ (∀ m124, m124 = up m (a + 2) x5 (m (a + 1) x6) → ((inR (x5 + 1)) ∧ ((inR (x6 + 1)) ∧ (Wq l G false Y_Formula_worth d (QI P) 6 [(0, .inr (.inr a)), (1, .inl x1), (2, .inl x2), (3, .inl x3), (4, .inl x4), (5, .inl (x5 + 1)), (6, .inl (x6 + 1))] [] m124)))))))) ∧ (¬ (x5 < 40) → (P 0 m)))))))) : Wq l G false Y_Formula_worth d (QI P) 6 [(0, .inr (.inr a)), (1, .inl x1), (2, .inl x2), (3, .inl x3), (4, .inl x4), (5, .inl x5), (6, .inl x6)] [] m := by
  refine Wp.wf (fun hw _ hl hs => ?_)
  have H0 := H hw (hl _ (List.mem_of_getElem? (i := 1) rfl)) (hl _ (List.mem_of_getElem? (i := 2) rfl)) (hl _ (List.mem_of_getElem? (i := 3) rfl)) (hl _ (List.mem_of_getElem? (i := 4) rfl)) (hl _ (List.mem_of_getElem? (i := 5) rfl)) (hl _ (List.mem_of_getElem? (i := 6) rfl))
  refine Wp.iload 6 6 d_Formula_worth_6 rfl ?_
  refine Wp.aload_n 0 0 d_Formula_worth_8 rfl rfl ?_
  refine Wq.getI 2 rfl d_Formula_worth_9 fl_Formula_16 (isF_lay ha) (Or.inl rfl) ?_
  obtain ⟨H2, H3⟩ := H0
  refine Wp.icmp_ge 169 d_Formula_worth_12 (by decide) (fun c1 => ?_) (fun c1 => ?_)
  · have H4 := H2 c1
    refine Wp.iload 5 5 d_Formula_worth_169 rfl ?_
    refine Wp.iconst d_Formula_worth_171 (by decide) ?_
    obtain ⟨H7, H8⟩ := H4
    refine Wp.icmp_ne 184 d_Formula_worth_172 (by decide) (fun c6 => ?_) (fun c6 => ?_)
    · have H9 := H7 c6
      refine Wp.iconst d_Formula_worth_184 (by decide) ?_
      exact Wq.iret d_Formula_worth_185 rfl H9
    · have H10 := H8 c6
      refine Wp.aload_n 0 0 d_Formula_worth_175 rfl rfl ?_
      refine Wp.getP (a + 2) d_Formula_worth_176 fl_Formula_13 (isF_lay ha) rfl (isF_p1 ha) ?_
      refine Wp.iconst d_Formula_worth_179 (by decide) ?_
      refine Wp.iald d_Formula_worth_180 (isF_l1 ha) (Or.inl rfl) (by decide) (by decide) ?_
      refine Wp.goto 185 d_Formula_worth_181 (by decide) ?_
      exact Wq.iret d_Formula_worth_185 rfl H10
  · have H5 := H3 c1
    refine Wp.aload_n 0 0 d_Formula_worth_15 rfl rfl ?_
    refine Wp.getP (a + 1) d_Formula_worth_16 fl_Formula_9 (isF_lay ha) rfl (isF_p0 ha) ?_
    refine Wp.iload 6 6 d_Formula_worth_19 rfl ?_
    obtain ⟨s11, H12⟩ := H5
    refine Wp.iald d_Formula_worth_21 (isF_l0 ha) (Or.inl rfl) s11.1 s11.2 ?_
    refine Wp.istore 7 [(0, .inr (.inr a)), (1, .inl x1), (2, .inl x2), (3, .inl x3), (4, .inl x4), (5, .inl x5), (6, .inl x6), (7, .inl (m (a + 1) x6))] d_Formula_worth_22 (by decide) rfl ?_
    refine Wp.iload 7 7 d_Formula_worth_24 rfl ?_
    refine Wp.sipush d_Formula_worth_26 (by decide) (by decide) ?_
    obtain ⟨H14, H15⟩ := H12
    refine Wp.icmp_ge 77 d_Formula_worth_29 (by decide) (fun c13 => ?_) (fun c13 => ?_)
    · have H16 := H14 c13
      refine Wp.iload 7 7 d_Formula_worth_77 rfl ?_
      refine Wp.sipush d_Formula_worth_79 (by decide) (by decide) ?_
      obtain ⟨H19, H20⟩ := H16
      refine Wp.icmp_ne 122 d_Formula_worth_82 (by decide) (fun c18 => ?_) (fun c18 => ?_)
      · have H21 := H19 c18
        refine Wp.iload 5 5 d_Formula_worth_122 rfl ?_
        refine Wp.iconst d_Formula_worth_124 (by decide) ?_
        obtain ⟨H24, H25⟩ := H21
        refine Wp.icmp_ge 130 d_Formula_worth_125 (by decide) (fun c23 => ?_) (fun c23 => ?_)
        · have H26 := H24 c23
          obtain ⟨s28, H29⟩ := H26
          refine Wp.iinc 5 5 [(0, .inr (.inr a)), (1, .inl x1), (2, .inl x2), (3, .inl x3), (4, .inl x4), (5, .inl (x5 + (-1))), (6, .inl x6), (7, .inl (m (a + 1) x6))] d_Formula_worth_130 rfl s28 (by decide) rfl ?_
          refine Wp.aload_n 0 0 d_Formula_worth_133 rfl rfl ?_
          refine Wp.getP (a + 2) d_Formula_worth_134 fl_Formula_13 (isF_lay ha) rfl (isF_p1 ha) ?_
          refine Wp.iload 5 5 d_Formula_worth_137 rfl ?_
          refine Wp.iconst d_Formula_worth_139 (by decide) ?_
          obtain ⟨s30, H31⟩ := H29
          refine Wp.isub d_Formula_worth_140 s30 ?_
          refine Wp.iload 7 7 d_Formula_worth_141 rfl ?_
          refine Wp.aload_n 0 0 d_Formula_worth_143 rfl rfl ?_
          refine Wp.getP (a + 2) d_Formula_worth_144 fl_Formula_13 (isF_lay ha) rfl (isF_p1 ha) ?_
          refine Wp.iload 5 5 d_Formula_worth_147 rfl ?_
          refine Wp.iconst d_Formula_worth_149 (by decide) ?_
          obtain ⟨s32, H33⟩ := H31
          refine Wp.isub d_Formula_worth_150 s32 ?_
          obtain ⟨s34, H35⟩ := H33
          refine Wp.iald d_Formula_worth_151 (isF_l1 ha) (Or.inl rfl) s34.1 s34.2 ?_
          refine Wp.aload_n 0 0 d_Formula_worth_152 rfl rfl ?_
          refine Wp.getP (a + 2) d_Formula_worth_153 fl_Formula_13 (isF_lay ha) rfl (isF_p1 ha) ?_
          refine Wp.iload 5 5 d_Formula_worth_156 rfl ?_
          obtain ⟨s36, H37⟩ := H35
          refine Wp.iald d_Formula_worth_158 (isF_l1 ha) (Or.inl rfl) s36.1 s36.2 ?_
          obtain ⟨e38, P39, hd40, ho41, H42⟩ := H37
          refine Wq.SI (st := [.inl ((x5 + (-1)) - 1), .inr (.inr (a + 2))]) [.inl (m (a + 1) x6), .inl (m (a + 2) ((x5 + (-1)) - 1)), .inl (m (a + 2) (x5 + (-1)))] d_Formula_worth_159 k_Formula_joined ml_Formula_24 rfl  (fun h => by cases h) (Nat.le_of_ble_eq_true rfl) hd40 ho41 (fun z44 m45 hp46 hz47 hw48 => ?_)
          have H43 := H42 z44 m45 hp46 hz47 hw48
          obtain ⟨s56, H57⟩ := H43
          refine Wq.iast d_Formula_worth_162 (isF_l1 ha) s56.1 s56.2 (fun m49 hm50 => ?_)
          have H51 := H57 m49 hm50
          obtain ⟨s54, H55⟩ := H51
          refine Wp.iinc 6 6 [(0, .inr (.inr a)), (1, .inl x1), (2, .inl x2), (3, .inl x3), (4, .inl x4), (5, .inl (x5 + (-1))), (6, .inl (x6 + 1)), (7, .inl (m (a + 1) x6))] d_Formula_worth_163 rfl s54 (by decide) rfl ?_
          refine Wp.goto 6 d_Formula_worth_166 (by decide) ?_
          refine Wp.pick [0, 1, 2, 3, 4, 5, 6] [(0, .inr (.inr a)), (1, .inl x1), (2, .inl x2), (3, .inl x3), (4, .inl x4), (5, .inl (x5 + (-1))), (6, .inl (x6 + 1))] rfl ?_
          exact H55
        · have H27 := H25 c23
          refine Wp.iconst d_Formula_worth_128 (by decide) ?_
          exact Wq.iret d_Formula_worth_129 rfl H27
      · have H22 := H20 c18
        refine Wp.iload 5 5 d_Formula_worth_85 rfl ?_
        refine Wp.iconst d_Formula_worth_87 (by decide) ?_
        obtain ⟨H59, H60⟩ := H22
        refine Wp.icmp_ge 93 d_Formula_worth_88 (by decide) (fun c58 => ?_) (fun c58 => ?_)
        · have H61 := H59 c58
          refine Wp.aload_n 0 0 d_Formula_worth_93 rfl rfl ?_
          refine Wp.getP (a + 2) d_Formula_worth_94 fl_Formula_13 (isF_lay ha) rfl (isF_p1 ha) ?_
          refine Wp.iload 5 5 d_Formula_worth_97 rfl ?_
          refine Wp.iconst d_Formula_worth_99 (by decide) ?_
          obtain ⟨s63, H64⟩ := H61
          refine Wp.isub d_Formula_worth_100 s63 ?_
          refine Wp.aload_n 0 0 d_Formula_worth_101 rfl rfl ?_
          refine Wp.getP (a + 2) d_Formula_worth_102 fl_Formula_13 (isF_lay ha) rfl (isF_p1 ha) ?_
          refine Wp.iload 5 5 d_Formula_worth_105 rfl ?_
          refine Wp.iconst d_Formula_worth_107 (by decide) ?_
          obtain ⟨s65, H66⟩ := H64
          refine Wp.isub d_Formula_worth_108 s65 ?_
          obtain ⟨s67, H68⟩ := H66
          refine Wp.iald d_Formula_worth_109 (isF_l1 ha) (Or.inl rfl) s67.1 s67.2 ?_
          obtain ⟨H70, H71⟩ := H68
          refine Wp.if_ne 117 d_Formula_worth_110 (by decide) (fun c69 => ?_) (fun c69 => ?_)
          · have H72 := H70 c69
            refine Wp.iconst d_Formula_worth_117 (by decide) ?_
            obtain ⟨s81, H82⟩ := H72
            refine Wq.iast d_Formula_worth_118 (isF_l1 ha) s81.1 s81.2 (fun m74 hm75 => ?_)
            have H76 := H82 m74 hm75
            refine Wp.goto 163 d_Formula_worth_119 (by decide) ?_
            obtain ⟨s79, H80⟩ := H76
            refine Wp.iinc 6 6 [(0, .inr (.inr a)), (1, .inl x1), (2, .inl x2), (3, .inl x3), (4, .inl x4), (5, .inl x5), (6, .inl (x6 + 1)), (7, .inl (m (a + 1) x6))] d_Formula_worth_163 rfl s79 (by decide) rfl ?_
            refine Wp.goto 6 d_Formula_worth_166 (by decide) ?_
            refine Wp.pick [0, 1, 2, 3, 4, 5, 6] [(0, .inr (.inr a)), (1, .inl x1), (2, .inl x2), (3, .inl x3), (4, .inl x4), (5, .inl x5), (6, .inl (x6 + 1))] rfl ?_
            exact H80
          · have H73 := H71 c69
            refine Wp.iconst d_Formula_worth_113 (by decide) ?_
            refine Wp.goto 118 d_Formula_worth_114 (by decide) ?_
            obtain ⟨s90, H91⟩ := H73
            refine Wq.iast d_Formula_worth_118 (isF_l1 ha) s90.1 s90.2 (fun m83 hm84 => ?_)
            have H85 := H91 m83 hm84
            refine Wp.goto 163 d_Formula_worth_119 (by decide) ?_
            obtain ⟨s88, H89⟩ := H85
            refine Wp.iinc 6 6 [(0, .inr (.inr a)), (1, .inl x1), (2, .inl x2), (3, .inl x3), (4, .inl x4), (5, .inl x5), (6, .inl (x6 + 1)), (7, .inl (m (a + 1) x6))] d_Formula_worth_163 rfl s88 (by decide) rfl ?_
            refine Wp.goto 6 d_Formula_worth_166 (by decide) ?_
            refine Wp.pick [0, 1, 2, 3, 4, 5, 6] [(0, .inr (.inr a)), (1, .inl x1), (2, .inl x2), (3, .inl x3), (4, .inl x4), (5, .inl x5), (6, .inl (x6 + 1))] rfl ?_
            exact H89
        · have H62 := H60 c58
          refine Wp.iconst d_Formula_worth_91 (by decide) ?_
          exact Wq.iret d_Formula_worth_92 rfl H62
    · have H17 := H15 c13
      refine Wp.iload 5 5 d_Formula_worth_32 rfl ?_
      refine Wp.bipush d_Formula_worth_34 (by decide) (by decide) ?_
      obtain ⟨H93, H94⟩ := H17
      refine Wp.icmp_lt 41 d_Formula_worth_36 (by decide) (fun c92 => ?_) (fun c92 => ?_)
      · have H95 := H93 c92
        refine Wp.aload_n 0 0 d_Formula_worth_41 rfl rfl ?_
        refine Wp.getP (a + 2) d_Formula_worth_42 fl_Formula_13 (isF_lay ha) rfl (isF_p1 ha) ?_
        refine Wp.iload 5 5 d_Formula_worth_45 rfl ?_
        refine Wp.iload 7 7 d_Formula_worth_47 rfl ?_
        refine Wp.sipush d_Formula_worth_49 (by decide) (by decide) ?_
        obtain ⟨H98, H99⟩ := H95
        refine Wp.icmp_ge 60 d_Formula_worth_52 (by decide) (fun c97 => ?_) (fun c97 => ?_)
        · have H100 := H98 c97
          refine Wp.iload 7 7 d_Formula_worth_60 rfl ?_
          refine Wp.iload_n 1 1 d_Formula_worth_62 rfl rfl ?_
          refine Wp.iload_n 2 2 d_Formula_worth_63 rfl rfl ?_
          refine Wp.iload_n 3 3 d_Formula_worth_64 rfl rfl ?_
          refine Wp.iload 4 4 d_Formula_worth_65 rfl ?_
          obtain ⟨e102, P103, hd104, ho105, H106⟩ := H100
          refine Wq.SI (st := [.inl x5, .inr (.inr (a + 2))]) [.inl (m (a + 1) x6), .inl x1, .inl x2, .inl x3, .inl x4] d_Formula_worth_67 k_Formula_named ml_Formula_20 rfl  (fun h => by cases h) (Nat.le_of_ble_eq_true rfl) hd104 ho105 (fun z108 m109 hp110 hz111 hw112 => ?_)
          have H107 := H106 z108 m109 hp110 hz111 hw112
          obtain ⟨s122, H123⟩ := H107
          refine Wq.iast d_Formula_worth_70 (isF_l1 ha) s122.1 s122.2 (fun m113 hm114 => ?_)
          have H115 := H123 m113 hm114
          obtain ⟨s118, H119⟩ := H115
          refine Wp.iinc 5 5 [(0, .inr (.inr a)), (1, .inl x1), (2, .inl x2), (3, .inl x3), (4, .inl x4), (5, .inl (x5 + 1)), (6, .inl x6), (7, .inl (m (a + 1) x6))] d_Formula_worth_71 rfl s118 (by decide) rfl ?_
          refine Wp.goto 163 d_Formula_worth_74 (by decide) ?_
          obtain ⟨s120, H121⟩ := H119
          refine Wp.iinc 6 6 [(0, .inr (.inr a)), (1, .inl x1), (2, .inl x2), (3, .inl x3), (4, .inl x4), (5, .inl (x5 + 1)), (6, .inl (x6 + 1)), (7, .inl (m (a + 1) x6))] d_Formula_worth_163 rfl s120 (by decide) rfl ?_
          refine Wp.goto 6 d_Formula_worth_166 (by decide) ?_
          refine Wp.pick [0, 1, 2, 3, 4, 5, 6] [(0, .inr (.inr a)), (1, .inl x1), (2, .inl x2), (3, .inl x3), (4, .inl x4), (5, .inl (x5 + 1)), (6, .inl (x6 + 1))] rfl ?_
          exact H121
        · have H101 := H99 c97
          refine Wp.iload 7 7 d_Formula_worth_55 rfl ?_
          refine Wp.goto 70 d_Formula_worth_57 (by decide) ?_
          obtain ⟨s133, H134⟩ := H101
          refine Wq.iast d_Formula_worth_70 (isF_l1 ha) s133.1 s133.2 (fun m124 hm125 => ?_)
          have H126 := H134 m124 hm125
          obtain ⟨s129, H130⟩ := H126
          refine Wp.iinc 5 5 [(0, .inr (.inr a)), (1, .inl x1), (2, .inl x2), (3, .inl x3), (4, .inl x4), (5, .inl (x5 + 1)), (6, .inl x6), (7, .inl (m (a + 1) x6))] d_Formula_worth_71 rfl s129 (by decide) rfl ?_
          refine Wp.goto 163 d_Formula_worth_74 (by decide) ?_
          obtain ⟨s131, H132⟩ := H130
          refine Wp.iinc 6 6 [(0, .inr (.inr a)), (1, .inl x1), (2, .inl x2), (3, .inl x3), (4, .inl x4), (5, .inl (x5 + 1)), (6, .inl (x6 + 1)), (7, .inl (m (a + 1) x6))] d_Formula_worth_163 rfl s131 (by decide) rfl ?_
          refine Wp.goto 6 d_Formula_worth_166 (by decide) ?_
          refine Wp.pick [0, 1, 2, 3, 4, 5, 6] [(0, .inr (.inr a)), (1, .inl x1), (2, .inl x2), (3, .inl x3), (4, .inl x4), (5, .inl (x5 + 1)), (6, .inl (x6 + 1))] rfl ?_
          exact H132
      · have H96 := H94 c92
        refine Wp.iconst d_Formula_worth_39 (by decide) ?_
        exact Wq.iret d_Formula_worth_40 rfl H96
theorem d_Formula_named_0 : decode Y_Formula_named.2.1 0 = .ok (.iload_n 0, 1) := by decide +kernel
theorem d_Formula_named_1 : decode Y_Formula_named.2.1 1 = .ok (.tableswitch 33 10000 10002 #[27, 29, 31], 27) := by decide +kernel
theorem d_Formula_named_28 : decode Y_Formula_named.2.1 28 = .ok (.iload_n 1, 1) := by decide +kernel
theorem d_Formula_named_29 : decode Y_Formula_named.2.1 29 = .ok (.ireturn, 1) := by decide +kernel
theorem d_Formula_named_30 : decode Y_Formula_named.2.1 30 = .ok (.iload_n 2, 1) := by decide +kernel
theorem d_Formula_named_31 : decode Y_Formula_named.2.1 31 = .ok (.ireturn, 1) := by decide +kernel
theorem d_Formula_named_32 : decode Y_Formula_named.2.1 32 = .ok (.iload_n 3, 1) := by decide +kernel
theorem d_Formula_named_33 : decode Y_Formula_named.2.1 33 = .ok (.ireturn, 1) := by decide +kernel
theorem d_Formula_named_34 : decode Y_Formula_named.2.1 34 = .ok (.iload 4, 2) := by decide +kernel
theorem d_Formula_named_36 : decode Y_Formula_named.2.1 36 = .ok (.ireturn, 1) := by decide +kernel
theorem e_Formula_named {l : Launch} {G : GT} {d : Nat} {P : Int → MM → Prop} {m : MM} (x0 : Int) (x1 : Int) (x2 : Int) (x3 : Int) (x4 : Int)  (H : wfM m → inR x0 → inR x1 → inR x2 → inR x3 → inR x4 → (x0 = 10000 → (P x1 m)) ∧ (x0 = 10001 → (P x2 m)) ∧ (x0 = 10002 → (P x3 m)) ∧ (¬ (x0 = 10000) → ¬ (x0 = 10001) → ¬ (x0 = 10002) → (P x4 m))) : CI l G Y_Formula_named d [.inl x0, .inl x1, .inl x2, .inl x3, .inl x4] m P := by
  refine CI.of [(0, .inl x0), (1, .inl x1), (2, .inl x2), (3, .inl x3), (4, .inl x4)] k_Formula_named.1 (Nat.le_of_ble_eq_true rfl) rfl (Wp.wf (fun hw _ hl hs => ?_))
  have H0 := H hw (hl _ (List.mem_of_getElem? (i := 0) rfl)) (hl _ (List.mem_of_getElem? (i := 1) rfl)) (hl _ (List.mem_of_getElem? (i := 2) rfl)) (hl _ (List.mem_of_getElem? (i := 3) rfl)) (hl _ (List.mem_of_getElem? (i := 4) rfl))
  refine Wp.iload_n 0 0 d_Formula_named_0 rfl rfl ?_
  obtain ⟨H1, H2⟩ := H0
  by_cases c3 : x0 = 10000
  · have H4 := H1 c3
    refine Wp.tin (off := 27) 10000 28 d_Formula_named_1 c3 (by decide +kernel) (by decide +kernel) (by decide +kernel) (by decide +kernel) ?_
    refine Wp.iload_n 1 1 d_Formula_named_28 rfl rfl ?_
    exact Wq.iret d_Formula_named_29 rfl H4
  obtain ⟨H5, H6⟩ := H2
  by_cases c7 : x0 = 10001
  · have H8 := H5 c7
    refine Wp.tin (off := 29) 10001 30 d_Formula_named_1 c7 (by decide +kernel) (by decide +kernel) (by decide +kernel) (by decide +kernel) ?_
    refine Wp.iload_n 2 2 d_Formula_named_30 rfl rfl ?_
    exact Wq.iret d_Formula_named_31 rfl H8
  obtain ⟨H9, H10⟩ := H6
  by_cases c11 : x0 = 10002
  · have H12 := H9 c11
    refine Wp.tin (off := 31) 10002 32 d_Formula_named_1 c11 (by decide +kernel) (by decide +kernel) (by decide +kernel) (by decide +kernel) ?_
    refine Wp.iload_n 3 3 d_Formula_named_32 rfl rfl ?_
    exact Wq.iret d_Formula_named_33 rfl H12
  have H13 := H10 c3 c7 c11
  have ho1 : x0 < 10000 ∨ 10002 < x0 := (lt_or_geI x0 10000).elim Or.inl (fun h9 => Or.inr (Int.lt_of_lt_of_le (by decide +kernel) (ne_step (ne_step (ne_step h9 c3) c7) c11)))
  refine Wp.tout 34 d_Formula_named_1 ho1 (by decide +kernel) ?_
  refine Wp.iload 4 4 d_Formula_named_34 rfl ?_
  exact Wq.iret d_Formula_named_36 rfl H13
theorem d_Formula_joined_0 : decode Y_Formula_joined.2.1 0 = .ok (.iload_n 0, 1) := by decide +kernel
theorem d_Formula_joined_1 : decode Y_Formula_joined.2.1 1 = .ok (.tableswitch 152 10011 10020 #[55, 69, 83, 94, 105, 116, 120, 124, 128, 140], 55) := by decide +kernel
theorem d_Formula_joined_56 : decode Y_Formula_joined.2.1 56 = .ok (.iload_n 1, 1) := by decide +kernel
theorem d_Formula_joined_57 : decode Y_Formula_joined.2.1 57 = .ok (.ifCond .eq 11, 3) := by decide +kernel
theorem d_Formula_joined_60 : decode Y_Formula_joined.2.1 60 = .ok (.iload_n 2, 1) := by decide +kernel
theorem d_Formula_joined_61 : decode Y_Formula_joined.2.1 61 = .ok (.ifCond .eq 7, 3) := by decide +kernel
theorem d_Formula_joined_64 : decode Y_Formula_joined.2.1 64 = .ok (.iconst 1, 1) := by decide +kernel
theorem d_Formula_joined_65 : decode Y_Formula_joined.2.1 65 = .ok (.goto 4, 3) := by decide +kernel
theorem d_Formula_joined_68 : decode Y_Formula_joined.2.1 68 = .ok (.iconst 0, 1) := by decide +kernel
theorem d_Formula_joined_69 : decode Y_Formula_joined.2.1 69 = .ok (.ireturn, 1) := by decide +kernel
theorem d_Formula_joined_70 : decode Y_Formula_joined.2.1 70 = .ok (.iload_n 1, 1) := by decide +kernel
theorem d_Formula_joined_71 : decode Y_Formula_joined.2.1 71 = .ok (.ifCond .ne 7, 3) := by decide +kernel
theorem d_Formula_joined_74 : decode Y_Formula_joined.2.1 74 = .ok (.iload_n 2, 1) := by decide +kernel
theorem d_Formula_joined_75 : decode Y_Formula_joined.2.1 75 = .ok (.ifCond .eq 7, 3) := by decide +kernel
theorem d_Formula_joined_78 : decode Y_Formula_joined.2.1 78 = .ok (.iconst 1, 1) := by decide +kernel
theorem d_Formula_joined_79 : decode Y_Formula_joined.2.1 79 = .ok (.goto 4, 3) := by decide +kernel
theorem d_Formula_joined_82 : decode Y_Formula_joined.2.1 82 = .ok (.iconst 0, 1) := by decide +kernel
theorem d_Formula_joined_83 : decode Y_Formula_joined.2.1 83 = .ok (.ireturn, 1) := by decide +kernel
theorem d_Formula_joined_84 : decode Y_Formula_joined.2.1 84 = .ok (.iload_n 1, 1) := by decide +kernel
theorem d_Formula_joined_85 : decode Y_Formula_joined.2.1 85 = .ok (.iload_n 2, 1) := by decide +kernel
theorem d_Formula_joined_86 : decode Y_Formula_joined.2.1 86 = .ok (.if_icmp .ge 7, 3) := by decide +kernel
theorem d_Formula_joined_89 : decode Y_Formula_joined.2.1 89 = .ok (.iconst 1, 1) := by decide +kernel
theorem d_Formula_joined_90 : decode Y_Formula_joined.2.1 90 = .ok (.goto 4, 3) := by decide +kernel
theorem d_Formula_joined_93 : decode Y_Formula_joined.2.1 93 = .ok (.iconst 0, 1) := by decide +kernel
theorem d_Formula_joined_94 : decode Y_Formula_joined.2.1 94 = .ok (.ireturn, 1) := by decide +kernel
theorem d_Formula_joined_95 : decode Y_Formula_joined.2.1 95 = .ok (.iload_n 1, 1) := by decide +kernel
theorem d_Formula_joined_96 : decode Y_Formula_joined.2.1 96 = .ok (.iload_n 2, 1) := by decide +kernel
theorem d_Formula_joined_97 : decode Y_Formula_joined.2.1 97 = .ok (.if_icmp .le 7, 3) := by decide +kernel
theorem d_Formula_joined_100 : decode Y_Formula_joined.2.1 100 = .ok (.iconst 1, 1) := by decide +kernel
theorem d_Formula_joined_101 : decode Y_Formula_joined.2.1 101 = .ok (.goto 4, 3) := by decide +kernel
theorem d_Formula_joined_104 : decode Y_Formula_joined.2.1 104 = .ok (.iconst 0, 1) := by decide +kernel
theorem d_Formula_joined_105 : decode Y_Formula_joined.2.1 105 = .ok (.ireturn, 1) := by decide +kernel
theorem d_Formula_joined_106 : decode Y_Formula_joined.2.1 106 = .ok (.iload_n 1, 1) := by decide +kernel
theorem d_Formula_joined_107 : decode Y_Formula_joined.2.1 107 = .ok (.iload_n 2, 1) := by decide +kernel
theorem d_Formula_joined_108 : decode Y_Formula_joined.2.1 108 = .ok (.if_icmp .ne 7, 3) := by decide +kernel
theorem d_Formula_joined_111 : decode Y_Formula_joined.2.1 111 = .ok (.iconst 1, 1) := by decide +kernel
theorem d_Formula_joined_112 : decode Y_Formula_joined.2.1 112 = .ok (.goto 4, 3) := by decide +kernel
theorem d_Formula_joined_115 : decode Y_Formula_joined.2.1 115 = .ok (.iconst 0, 1) := by decide +kernel
theorem d_Formula_joined_116 : decode Y_Formula_joined.2.1 116 = .ok (.ireturn, 1) := by decide +kernel
theorem d_Formula_joined_117 : decode Y_Formula_joined.2.1 117 = .ok (.iload_n 1, 1) := by decide +kernel
theorem d_Formula_joined_118 : decode Y_Formula_joined.2.1 118 = .ok (.iload_n 2, 1) := by decide +kernel
theorem d_Formula_joined_119 : decode Y_Formula_joined.2.1 119 = .ok (.iadd, 1) := by decide +kernel
theorem d_Formula_joined_120 : decode Y_Formula_joined.2.1 120 = .ok (.ireturn, 1) := by decide +kernel
theorem d_Formula_joined_121 : decode Y_Formula_joined.2.1 121 = .ok (.iload_n 1, 1) := by decide +kernel
theorem d_Formula_joined_122 : decode Y_Formula_joined.2.1 122 = .ok (.iload_n 2, 1) := by decide +kernel
theorem d_Formula_joined_123 : decode Y_Formula_joined.2.1 123 = .ok (.isub, 1) := by decide +kernel
theorem d_Formula_joined_124 : decode Y_Formula_joined.2.1 124 = .ok (.ireturn, 1) := by decide +kernel
theorem d_Formula_joined_125 : decode Y_Formula_joined.2.1 125 = .ok (.iload_n 1, 1) := by decide +kernel
theorem d_Formula_joined_126 : decode Y_Formula_joined.2.1 126 = .ok (.iload_n 2, 1) := by decide +kernel
theorem d_Formula_joined_127 : decode Y_Formula_joined.2.1 127 = .ok (.imul, 1) := by decide +kernel
theorem d_Formula_joined_128 : decode Y_Formula_joined.2.1 128 = .ok (.ireturn, 1) := by decide +kernel
theorem d_Formula_joined_129 : decode Y_Formula_joined.2.1 129 = .ok (.iload_n 2, 1) := by decide +kernel
theorem d_Formula_joined_130 : decode Y_Formula_joined.2.1 130 = .ok (.ifCond .ne 7, 3) := by decide +kernel
theorem d_Formula_joined_133 : decode Y_Formula_joined.2.1 133 = .ok (.iconst 0, 1) := by decide +kernel
theorem d_Formula_joined_134 : decode Y_Formula_joined.2.1 134 = .ok (.goto 6, 3) := by decide +kernel
theorem d_Formula_joined_137 : decode Y_Formula_joined.2.1 137 = .ok (.iload_n 1, 1) := by decide +kernel
theorem d_Formula_joined_138 : decode Y_Formula_joined.2.1 138 = .ok (.iload_n 2, 1) := by decide +kernel
theorem d_Formula_joined_139 : decode Y_Formula_joined.2.1 139 = .ok (.idiv, 1) := by decide +kernel
theorem d_Formula_joined_140 : decode Y_Formula_joined.2.1 140 = .ok (.ireturn, 1) := by decide +kernel
theorem d_Formula_joined_141 : decode Y_Formula_joined.2.1 141 = .ok (.iload_n 2, 1) := by decide +kernel
theorem d_Formula_joined_142 : decode Y_Formula_joined.2.1 142 = .ok (.ifCond .ne 7, 3) := by decide +kernel
theorem d_Formula_joined_145 : decode Y_Formula_joined.2.1 145 = .ok (.iconst 0, 1) := by decide +kernel
theorem d_Formula_joined_146 : decode Y_Formula_joined.2.1 146 = .ok (.goto 6, 3) := by decide +kernel
theorem d_Formula_joined_149 : decode Y_Formula_joined.2.1 149 = .ok (.iload_n 1, 1) := by decide +kernel
theorem d_Formula_joined_150 : decode Y_Formula_joined.2.1 150 = .ok (.iload_n 2, 1) := by decide +kernel
theorem d_Formula_joined_151 : decode Y_Formula_joined.2.1 151 = .ok (.irem, 1) := by decide +kernel
theorem d_Formula_joined_152 : decode Y_Formula_joined.2.1 152 = .ok (.ireturn, 1) := by decide +kernel
theorem d_Formula_joined_153 : decode Y_Formula_joined.2.1 153 = .ok (.iconst 0, 1) := by decide +kernel
theorem d_Formula_joined_154 : decode Y_Formula_joined.2.1 154 = .ok (.ireturn, 1) := by decide +kernel
theorem e_Formula_joined {l : Launch} {G : GT} {d : Nat} {P : Int → MM → Prop} {m : MM} (x0 : Int) (x1 : Int) (x2 : Int)  (H : wfM m → inR x0 → inR x1 → inR x2 → (x0 = 10011 → ((x1 = 0 → (P 0 m)) ∧ (¬ (x1 = 0) → ((x2 = 0 → (P 0 m)) ∧ (¬ (x2 = 0) → (P 1 m)))))) ∧ (x0 = 10012 → ((x1 ≠ 0 → (P 1 m)) ∧ (¬ (x1 ≠ 0) → ((x2 = 0 → (P 0 m)) ∧ (¬ (x2 = 0) → (P 1 m)))))) ∧ (x0 = 10013 → ((x1 ≥ x2 → (P 0 m)) ∧ (¬ (x1 ≥ x2) → (P 1 m)))) ∧ (x0 = 10014 → ((x1 ≤ x2 → (P 0 m)) ∧ (¬ (x1 ≤ x2) → (P 1 m)))) ∧ (x0 = 10015 → ((x1 ≠ x2 → (P 0 m)) ∧ (¬ (x1 ≠ x2) → (P 1 m)))) ∧ (x0 = 10016 → (P (w32 (x1 + x2)) m)) ∧ (x0 = 10017 → (P (w32 (x1 - x2)) m)) ∧ (x0 = 10018 → (P (w32 (x1 * x2)) m)) ∧ (x0 = 10019 → ((x2 ≠ 0 → ((x2 ≠ 0) ∧ (P (w32 (Int.tdiv x1 x2)) m))) ∧ (¬ (x2 ≠ 0) → (P 0 m)))) ∧ (x0 = 10020 → ((x2 ≠ 0 → ((x2 ≠ 0) ∧ (P (Int.tmod x1 x2) m))) ∧ (¬ (x2 ≠ 0) → (P 0 m)))) ∧ (¬ (x0 = 10011) → ¬ (x0 = 10012) → ¬ (x0 = 10013) → ¬ (x0 = 10014) → ¬ (x0 = 10015) → ¬ (x0 = 10016) → ¬ (x0 = 10017) → ¬ (x0 = 10018) → ¬ (x0 = 10019) → ¬ (x0 = 10020) → (P 0 m))) : CI l G Y_Formula_joined d [.inl x0, .inl x1, .inl x2] m P := by
  refine CI.of [(0, .inl x0), (1, .inl x1), (2, .inl x2)] k_Formula_joined.1 (Nat.le_of_ble_eq_true rfl) rfl (Wp.wf (fun hw _ hl hs => ?_))
  have H0 := H hw (hl _ (List.mem_of_getElem? (i := 0) rfl)) (hl _ (List.mem_of_getElem? (i := 1) rfl)) (hl _ (List.mem_of_getElem? (i := 2) rfl))
  refine Wp.iload_n 0 0 d_Formula_joined_0 rfl rfl ?_
  obtain ⟨H1, H2⟩ := H0
  by_cases c3 : x0 = 10011
  · have H4 := H1 c3
    refine Wp.tin (off := 55) 10011 56 d_Formula_joined_1 c3 (by decide +kernel) (by decide +kernel) (by decide +kernel) (by decide +kernel) ?_
    refine Wp.iload_n 1 1 d_Formula_joined_56 rfl rfl ?_
    obtain ⟨H6, H7⟩ := H4
    refine Wp.if_eq 68 d_Formula_joined_57 (by decide) (fun c5 => ?_) (fun c5 => ?_)
    · have H8 := H6 c5
      refine Wp.iconst d_Formula_joined_68 (by decide) ?_
      exact Wq.iret d_Formula_joined_69 rfl H8
    · have H9 := H7 c5
      refine Wp.iload_n 2 2 d_Formula_joined_60 rfl rfl ?_
      obtain ⟨H11, H12⟩ := H9
      refine Wp.if_eq 68 d_Formula_joined_61 (by decide) (fun c10 => ?_) (fun c10 => ?_)
      · have H13 := H11 c10
        refine Wp.iconst d_Formula_joined_68 (by decide) ?_
        exact Wq.iret d_Formula_joined_69 rfl H13
      · have H14 := H12 c10
        refine Wp.iconst d_Formula_joined_64 (by decide) ?_
        refine Wp.goto 69 d_Formula_joined_65 (by decide) ?_
        exact Wq.iret d_Formula_joined_69 rfl H14
  obtain ⟨H15, H16⟩ := H2
  by_cases c17 : x0 = 10012
  · have H18 := H15 c17
    refine Wp.tin (off := 69) 10012 70 d_Formula_joined_1 c17 (by decide +kernel) (by decide +kernel) (by decide +kernel) (by decide +kernel) ?_
    refine Wp.iload_n 1 1 d_Formula_joined_70 rfl rfl ?_
    obtain ⟨H20, H21⟩ := H18
    refine Wp.if_ne 78 d_Formula_joined_71 (by decide) (fun c19 => ?_) (fun c19 => ?_)
    · have H22 := H20 c19
      refine Wp.iconst d_Formula_joined_78 (by decide) ?_
      refine Wp.goto 83 d_Formula_joined_79 (by decide) ?_
      exact Wq.iret d_Formula_joined_83 rfl H22
    · have H23 := H21 c19
      refine Wp.iload_n 2 2 d_Formula_joined_74 rfl rfl ?_
      obtain ⟨H25, H26⟩ := H23
      refine Wp.if_eq 82 d_Formula_joined_75 (by decide) (fun c24 => ?_) (fun c24 => ?_)
      · have H27 := H25 c24
        refine Wp.iconst d_Formula_joined_82 (by decide) ?_
        exact Wq.iret d_Formula_joined_83 rfl H27
      · have H28 := H26 c24
        refine Wp.iconst d_Formula_joined_78 (by decide) ?_
        refine Wp.goto 83 d_Formula_joined_79 (by decide) ?_
        exact Wq.iret d_Formula_joined_83 rfl H28
  obtain ⟨H29, H30⟩ := H16
  by_cases c31 : x0 = 10013
  · have H32 := H29 c31
    refine Wp.tin (off := 83) 10013 84 d_Formula_joined_1 c31 (by decide +kernel) (by decide +kernel) (by decide +kernel) (by decide +kernel) ?_
    refine Wp.iload_n 1 1 d_Formula_joined_84 rfl rfl ?_
    refine Wp.iload_n 2 2 d_Formula_joined_85 rfl rfl ?_
    obtain ⟨H34, H35⟩ := H32
    refine Wp.icmp_ge 93 d_Formula_joined_86 (by decide) (fun c33 => ?_) (fun c33 => ?_)
    · have H36 := H34 c33
      refine Wp.iconst d_Formula_joined_93 (by decide) ?_
      exact Wq.iret d_Formula_joined_94 rfl H36
    · have H37 := H35 c33
      refine Wp.iconst d_Formula_joined_89 (by decide) ?_
      refine Wp.goto 94 d_Formula_joined_90 (by decide) ?_
      exact Wq.iret d_Formula_joined_94 rfl H37
  obtain ⟨H38, H39⟩ := H30
  by_cases c40 : x0 = 10014
  · have H41 := H38 c40
    refine Wp.tin (off := 94) 10014 95 d_Formula_joined_1 c40 (by decide +kernel) (by decide +kernel) (by decide +kernel) (by decide +kernel) ?_
    refine Wp.iload_n 1 1 d_Formula_joined_95 rfl rfl ?_
    refine Wp.iload_n 2 2 d_Formula_joined_96 rfl rfl ?_
    obtain ⟨H43, H44⟩ := H41
    refine Wp.icmp_le 104 d_Formula_joined_97 (by decide) (fun c42 => ?_) (fun c42 => ?_)
    · have H45 := H43 c42
      refine Wp.iconst d_Formula_joined_104 (by decide) ?_
      exact Wq.iret d_Formula_joined_105 rfl H45
    · have H46 := H44 c42
      refine Wp.iconst d_Formula_joined_100 (by decide) ?_
      refine Wp.goto 105 d_Formula_joined_101 (by decide) ?_
      exact Wq.iret d_Formula_joined_105 rfl H46
  obtain ⟨H47, H48⟩ := H39
  by_cases c49 : x0 = 10015
  · have H50 := H47 c49
    refine Wp.tin (off := 105) 10015 106 d_Formula_joined_1 c49 (by decide +kernel) (by decide +kernel) (by decide +kernel) (by decide +kernel) ?_
    refine Wp.iload_n 1 1 d_Formula_joined_106 rfl rfl ?_
    refine Wp.iload_n 2 2 d_Formula_joined_107 rfl rfl ?_
    obtain ⟨H52, H53⟩ := H50
    refine Wp.icmp_ne 115 d_Formula_joined_108 (by decide) (fun c51 => ?_) (fun c51 => ?_)
    · have H54 := H52 c51
      refine Wp.iconst d_Formula_joined_115 (by decide) ?_
      exact Wq.iret d_Formula_joined_116 rfl H54
    · have H55 := H53 c51
      refine Wp.iconst d_Formula_joined_111 (by decide) ?_
      refine Wp.goto 116 d_Formula_joined_112 (by decide) ?_
      exact Wq.iret d_Formula_joined_116 rfl H55
  obtain ⟨H56, H57⟩ := H48
  by_cases c58 : x0 = 10016
  · have H59 := H56 c58
    refine Wp.tin (off := 116) 10016 117 d_Formula_joined_1 c58 (by decide +kernel) (by decide +kernel) (by decide +kernel) (by decide +kernel) ?_
    refine Wp.iload_n 1 1 d_Formula_joined_117 rfl rfl ?_
    refine Wp.iload_n 2 2 d_Formula_joined_118 rfl rfl ?_
    refine Wp.iaddw d_Formula_joined_119 ?_
    exact Wq.iret d_Formula_joined_120 rfl H59
  obtain ⟨H60, H61⟩ := H57
  by_cases c62 : x0 = 10017
  · have H63 := H60 c62
    refine Wp.tin (off := 120) 10017 121 d_Formula_joined_1 c62 (by decide +kernel) (by decide +kernel) (by decide +kernel) (by decide +kernel) ?_
    refine Wp.iload_n 1 1 d_Formula_joined_121 rfl rfl ?_
    refine Wp.iload_n 2 2 d_Formula_joined_122 rfl rfl ?_
    refine Wp.isubw d_Formula_joined_123 ?_
    exact Wq.iret d_Formula_joined_124 rfl H63
  obtain ⟨H64, H65⟩ := H61
  by_cases c66 : x0 = 10018
  · have H67 := H64 c66
    refine Wp.tin (off := 124) 10018 125 d_Formula_joined_1 c66 (by decide +kernel) (by decide +kernel) (by decide +kernel) (by decide +kernel) ?_
    refine Wp.iload_n 1 1 d_Formula_joined_125 rfl rfl ?_
    refine Wp.iload_n 2 2 d_Formula_joined_126 rfl rfl ?_
    refine Wp.imulw d_Formula_joined_127 ?_
    exact Wq.iret d_Formula_joined_128 rfl H67
  obtain ⟨H68, H69⟩ := H65
  by_cases c70 : x0 = 10019
  · have H71 := H68 c70
    refine Wp.tin (off := 128) 10019 129 d_Formula_joined_1 c70 (by decide +kernel) (by decide +kernel) (by decide +kernel) (by decide +kernel) ?_
    refine Wp.iload_n 2 2 d_Formula_joined_129 rfl rfl ?_
    obtain ⟨H73, H74⟩ := H71
    refine Wp.if_ne 137 d_Formula_joined_130 (by decide) (fun c72 => ?_) (fun c72 => ?_)
    · have H75 := H73 c72
      refine Wp.iload_n 1 1 d_Formula_joined_137 rfl rfl ?_
      refine Wp.iload_n 2 2 d_Formula_joined_138 rfl rfl ?_
      obtain ⟨s77, H78⟩ := H75
      refine Wp.idiv d_Formula_joined_139 s77 ?_
      exact Wq.iret d_Formula_joined_140 rfl H78
    · have H76 := H74 c72
      refine Wp.iconst d_Formula_joined_133 (by decide) ?_
      refine Wp.goto 140 d_Formula_joined_134 (by decide) ?_
      exact Wq.iret d_Formula_joined_140 rfl H76
  obtain ⟨H79, H80⟩ := H69
  by_cases c81 : x0 = 10020
  · have H82 := H79 c81
    refine Wp.tin (off := 140) 10020 141 d_Formula_joined_1 c81 (by decide +kernel) (by decide +kernel) (by decide +kernel) (by decide +kernel) ?_
    refine Wp.iload_n 2 2 d_Formula_joined_141 rfl rfl ?_
    obtain ⟨H84, H85⟩ := H82
    refine Wp.if_ne 149 d_Formula_joined_142 (by decide) (fun c83 => ?_) (fun c83 => ?_)
    · have H86 := H84 c83
      refine Wp.iload_n 1 1 d_Formula_joined_149 rfl rfl ?_
      refine Wp.iload_n 2 2 d_Formula_joined_150 rfl rfl ?_
      obtain ⟨s88, H89⟩ := H86
      refine Wq.irem d_Formula_joined_151 s88 ?_
      exact Wq.iret d_Formula_joined_152 rfl H89
    · have H87 := H85 c83
      refine Wp.iconst d_Formula_joined_145 (by decide) ?_
      refine Wp.goto 152 d_Formula_joined_146 (by decide) ?_
      exact Wq.iret d_Formula_joined_152 rfl H87
  have H90 := H80 c3 c17 c31 c40 c49 c58 c62 c66 c70 c81
  have ho1 : x0 < 10011 ∨ 10020 < x0 := (lt_or_geI x0 10011).elim Or.inl (fun h9 => Or.inr (Int.lt_of_lt_of_le (by decide +kernel) (ne_step (ne_step (ne_step (ne_step (ne_step (ne_step (ne_step (ne_step (ne_step (ne_step h9 c3) c17) c31) c40) c49) c58) c62) c66) c70) c81)))
  refine Wp.tout 153 d_Formula_joined_1 ho1 (by decide +kernel) ?_
  refine Wp.iconst d_Formula_joined_153 (by decide) ?_
  exact Wq.iret d_Formula_joined_154 rfl H90
theorem d_Board_clear_0 : decode Y_Board_clear.2.1 0 = .ok (.aload_n 0, 1) := by decide +kernel
theorem d_Board_clear_1 : decode Y_Board_clear.2.1 1 = .ok (.iconst 0, 1) := by decide +kernel
theorem d_Board_clear_2 : decode Y_Board_clear.2.1 2 = .ok (.putfield 34, 3) := by decide +kernel
theorem d_Board_clear_5 : decode Y_Board_clear.2.1 5 = .ok (.aload_n 0, 1) := by decide +kernel
theorem d_Board_clear_6 : decode Y_Board_clear.2.1 6 = .ok (.iconst 0, 1) := by decide +kernel
theorem d_Board_clear_7 : decode Y_Board_clear.2.1 7 = .ok (.putfield 38, 3) := by decide +kernel
theorem d_Board_clear_10 : decode Y_Board_clear.2.1 10 = .ok (.aload_n 0, 1) := by decide +kernel
theorem d_Board_clear_11 : decode Y_Board_clear.2.1 11 = .ok (.iconst 0, 1) := by decide +kernel
theorem d_Board_clear_12 : decode Y_Board_clear.2.1 12 = .ok (.putfield 41, 3) := by decide +kernel
theorem d_Board_clear_15 : decode Y_Board_clear.2.1 15 = .ok (.aload_n 0, 1) := by decide +kernel
theorem d_Board_clear_16 : decode Y_Board_clear.2.1 16 = .ok (.iconst 0, 1) := by decide +kernel
theorem d_Board_clear_17 : decode Y_Board_clear.2.1 17 = .ok (.putfield 44, 3) := by decide +kernel
theorem d_Board_clear_20 : decode Y_Board_clear.2.1 20 = .ok (.aload_n 0, 1) := by decide +kernel
theorem d_Board_clear_21 : decode Y_Board_clear.2.1 21 = .ok (.iconst 0, 1) := by decide +kernel
theorem d_Board_clear_22 : decode Y_Board_clear.2.1 22 = .ok (.putfield 47, 3) := by decide +kernel
theorem d_Board_clear_25 : decode Y_Board_clear.2.1 25 = .ok (.aload_n 0, 1) := by decide +kernel
theorem d_Board_clear_26 : decode Y_Board_clear.2.1 26 = .ok (.getfield 9, 3) := by decide +kernel
theorem d_Board_clear_29 : decode Y_Board_clear.2.1 29 = .ok (.iconst 0, 1) := by decide +kernel
theorem d_Board_clear_30 : decode Y_Board_clear.2.1 30 = .ok (.invokestatic 50, 3) := by decide +kernel
theorem d_Board_clear_33 : decode Y_Board_clear.2.1 33 = .ok (.aload_n 0, 1) := by decide +kernel
theorem d_Board_clear_34 : decode Y_Board_clear.2.1 34 = .ok (.getfield 15, 3) := by decide +kernel
theorem d_Board_clear_37 : decode Y_Board_clear.2.1 37 = .ok (.iconst 0, 1) := by decide +kernel
theorem d_Board_clear_38 : decode Y_Board_clear.2.1 38 = .ok (.invokestatic 50, 3) := by decide +kernel
theorem d_Board_clear_41 : decode Y_Board_clear.2.1 41 = .ok (.aload_n 0, 1) := by decide +kernel
theorem d_Board_clear_42 : decode Y_Board_clear.2.1 42 = .ok (.getfield 18, 3) := by decide +kernel
theorem d_Board_clear_45 : decode Y_Board_clear.2.1 45 = .ok (.iconst 0, 1) := by decide +kernel
theorem d_Board_clear_46 : decode Y_Board_clear.2.1 46 = .ok (.invokestatic 50, 3) := by decide +kernel
theorem d_Board_clear_49 : decode Y_Board_clear.2.1 49 = .ok (.aload_n 0, 1) := by decide +kernel
theorem d_Board_clear_50 : decode Y_Board_clear.2.1 50 = .ok (.getfield 30, 3) := by decide +kernel
theorem d_Board_clear_53 : decode Y_Board_clear.2.1 53 = .ok (.invokevirtual 56, 3) := by decide +kernel
theorem d_Board_clear_56 : decode Y_Board_clear.2.1 56 = .ok (.return_, 1) := by decide +kernel
theorem e_Board_clear {l : Launch} {G : GT} {d : Nat} {P : MM → Prop} {m : MM} (a : Nat) (ha : isB a) (H : wfM m → ∀ m1, m1 = up m a 0 0 → (∀ m4, m4 = up m1 a 1 0 → (∀ m7, m7 = up m4 a 2 0 → (∀ m10, m10 = up m7 a 3 0 → (∀ m13, m13 = up m10 a 4 0 → (∃ (e16 : Nat) (P17 : MM → Prop), e16 < d ∧ CV l G Y_Arrays_fill e16 [.inr (.inr (a + 1)), .inl 0] m13 P17 ∧ (∀ m23, P17 m23 → wfM m23 → (∃ (e27 : Nat) (P28 : MM → Prop), e27 < d ∧ CV l G Y_Arrays_fill e27 [.inr (.inr (a + 2)), .inl 0] m23 P28 ∧ (∀ m34, P28 m34 → wfM m34 → (∃ (e38 : Nat) (P39 : MM → Prop), e38 < d ∧ CV l G Y_Arrays_fill e38 [.inr (.inr (a + 3)), .inl 0] m34 P39 ∧ (∀ m45, P39 m45 → wfM m45 → (∃ (e49 : Nat) (P50 : MM → Prop), e49 < d ∧ CV l G Y_Formula_clear e49 [.inr (.inr (a + 6))] m45 P50 ∧ (∀ m56, P50 m56 → wfM m56 → (P m56)))))))))))))) : CV l G Y_Board_clear d [.inr (.inr a)] m P := by
  refine CV.of [(0, .inr (.inr a))] k_Board_clear.1 (Nat.le_of_ble_eq_true rfl) rfl (Wp.wf (fun hw _ hl hs => ?_))
  have H0 := H hw
  refine Wp.aload_n 0 0 d_Board_clear_0 rfl rfl ?_
  refine Wp.iconst d_Board_clear_1 (by decide) ?_
  refine Wq.putI 0 rfl d_Board_clear_2 fl_Board_34 (fun _ _ _ h => by cases h; rfl) (isB_lay ha) (isB_n0 ha) rfl (fun m1 hm2 => ?_)
  have H3 := H0 m1 hm2
  refine Wp.aload_n 0 0 d_Board_clear_5 rfl rfl ?_
  refine Wp.iconst d_Board_clear_6 (by decide) ?_
  refine Wq.putI 1 rfl d_Board_clear_7 fl_Board_38 (fun _ _ _ h => by cases h; rfl) (isB_lay ha) (isB_n1 ha) rfl (fun m4 hm5 => ?_)
  have H6 := H3 m4 hm5
  refine Wp.aload_n 0 0 d_Board_clear_10 rfl rfl ?_
  refine Wp.iconst d_Board_clear_11 (by decide) ?_
  refine Wq.putI 2 rfl d_Board_clear_12 fl_Board_41 (fun _ _ _ h => by cases h; rfl) (isB_lay ha) (isB_n2 ha) rfl (fun m7 hm8 => ?_)
  have H9 := H6 m7 hm8
  refine Wp.aload_n 0 0 d_Board_clear_15 rfl rfl ?_
  refine Wp.iconst d_Board_clear_16 (by decide) ?_
  refine Wq.putI 3 rfl d_Board_clear_17 fl_Board_44 (fun _ _ _ h => by cases h; rfl) (isB_lay ha) (isB_n3 ha) rfl (fun m10 hm11 => ?_)
  have H12 := H9 m10 hm11
  refine Wp.aload_n 0 0 d_Board_clear_20 rfl rfl ?_
  refine Wp.iconst d_Board_clear_21 (by decide) ?_
  refine Wq.putI 4 rfl d_Board_clear_22 fl_Board_47 (fun _ _ _ h => by cases h; rfl) (isB_lay ha) (isB_n4 ha) rfl (fun m13 hm14 => ?_)
  have H15 := H12 m13 hm14
  refine Wp.aload_n 0 0 d_Board_clear_25 rfl rfl ?_
  refine Wp.getP (a + 1) d_Board_clear_26 fl_Board_9 (isB_lay ha) rfl (isB_p5 ha) ?_
  refine Wp.iconst d_Board_clear_29 (by decide) ?_
  obtain ⟨e16, P17, hd18, ho19, H20⟩ := H15
  refine Wq.SV (st := []) [.inr (.inr (a + 1)), .inl 0] d_Board_clear_30 k_Arrays_fill ml_Board_50 rfl  (fun h => by cases h) (Nat.le_of_ble_eq_true rfl) hd18 ho19 (fun m23 hp24 hw26 => ?_)
  have H21 := H20 m23 hp24 hw26
  refine Wp.aload_n 0 0 d_Board_clear_33 rfl rfl ?_
  refine Wp.getP (a + 2) d_Board_clear_34 fl_Board_15 (isB_lay ha) rfl (isB_p6 ha) ?_
  refine Wp.iconst d_Board_clear_37 (by decide) ?_
  obtain ⟨e27, P28, hd29, ho30, H31⟩ := H21
  refine Wq.SV (st := []) [.inr (.inr (a + 2)), .inl 0] d_Board_clear_38 k_Arrays_fill ml_Board_50 rfl  (fun h => by cases h) (Nat.le_of_ble_eq_true rfl) hd29 ho30 (fun m34 hp35 hw37 => ?_)
  have H32 := H31 m34 hp35 hw37
  refine Wp.aload_n 0 0 d_Board_clear_41 rfl rfl ?_
  refine Wp.getP (a + 3) d_Board_clear_42 fl_Board_18 (isB_lay ha) rfl (isB_p7 ha) ?_
  refine Wp.iconst d_Board_clear_45 (by decide) ?_
  obtain ⟨e38, P39, hd40, ho41, H42⟩ := H32
  refine Wq.SV (st := []) [.inr (.inr (a + 3)), .inl 0] d_Board_clear_46 k_Arrays_fill ml_Board_50 rfl  (fun h => by cases h) (Nat.le_of_ble_eq_true rfl) hd40 ho41 (fun m45 hp46 hw48 => ?_)
  have H43 := H42 m45 hp46 hw48
  refine Wp.aload_n 0 0 d_Board_clear_49 rfl rfl ?_
  refine Wp.getP (a + 6) d_Board_clear_50 fl_Board_30 (isB_lay ha) rfl (isB_p10 ha) ?_
  obtain ⟨e49, P50, hd51, ho52, H53⟩ := H43
  refine Wq.VV (st := []) [] d_Board_clear_53 k_Formula_clear ml_Board_56 rfl (isF_lay (isB_f ha)) rfl (fun h => by cases h) (Nat.le_of_ble_eq_true rfl) hd51 ho52 (fun m56 hp57 hw59 => ?_)
  have H54 := H53 m56 hp57 hw59
  exact Wq.vret d_Board_clear_56 rfl H54
theorem d_Board_width_0 : decode Y_Board_width.2.1 0 = .ok (.aload_n 0, 1) := by decide +kernel
theorem d_Board_width_1 : decode Y_Board_width.2.1 1 = .ok (.iload_n 1, 1) := by decide +kernel
theorem d_Board_width_2 : decode Y_Board_width.2.1 2 = .ok (.invokevirtual 59, 3) := by decide +kernel
theorem d_Board_width_5 : decode Y_Board_width.2.1 5 = .ok (.ifCond .eq 24, 3) := by decide +kernel
theorem d_Board_width_8 : decode Y_Board_width.2.1 8 = .ok (.aload_n 0, 1) := by decide +kernel
theorem d_Board_width_9 : decode Y_Board_width.2.1 9 = .ok (.iload_n 2, 1) := by decide +kernel
theorem d_Board_width_10 : decode Y_Board_width.2.1 10 = .ok (.invokevirtual 59, 3) := by decide +kernel
theorem d_Board_width_13 : decode Y_Board_width.2.1 13 = .ok (.ifCond .eq 16, 3) := by decide +kernel
theorem d_Board_width_16 : decode Y_Board_width.2.1 16 = .ok (.aload_n 0, 1) := by decide +kernel
theorem d_Board_width_17 : decode Y_Board_width.2.1 17 = .ok (.getfield 15, 3) := by decide +kernel
theorem d_Board_width_20 : decode Y_Board_width.2.1 20 = .ok (.iload_n 1, 1) := by decide +kernel
theorem d_Board_width_21 : decode Y_Board_width.2.1 21 = .ok (.iconst 5, 1) := by decide +kernel
theorem d_Board_width_22 : decode Y_Board_width.2.1 22 = .ok (.imul, 1) := by decide +kernel
theorem d_Board_width_23 : decode Y_Board_width.2.1 23 = .ok (.iload_n 2, 1) := by decide +kernel
theorem d_Board_width_24 : decode Y_Board_width.2.1 24 = .ok (.iadd, 1) := by decide +kernel
theorem d_Board_width_25 : decode Y_Board_width.2.1 25 = .ok (.iaload, 1) := by decide +kernel
theorem d_Board_width_26 : decode Y_Board_width.2.1 26 = .ok (.goto 4, 3) := by decide +kernel
theorem d_Board_width_29 : decode Y_Board_width.2.1 29 = .ok (.iconst 0, 1) := by decide +kernel
theorem d_Board_width_30 : decode Y_Board_width.2.1 30 = .ok (.ireturn, 1) := by decide +kernel
theorem e_Board_width {l : Launch} {G : GT} {d : Nat} {P : Int → MM → Prop} {m : MM} (x1 : Int) (x2 : Int) (a : Nat) (ha : isB a) (H : wfM m → inR x1 → inR x2 → ∃ (e1 : Nat) (P2 : Int → MM → Prop), e1 < d ∧ CI l G Y_Board_has e1 [.inr (.inr a), .inl x1] m P2 ∧ (∀ z7 m8, P2 z7 m8 → inR z7 → wfM m8 → ((z7 = 0 → (P 0 m8)) ∧ (¬ (z7 = 0) → (∃ (e17 : Nat) (P18 : Int → MM → Prop), e17 < d ∧ CI l G Y_Board_has e17 [.inr (.inr a), .inl x2] m8 P18 ∧ (∀ z23 m24, P18 z23 m24 → inR z23 → wfM m24 → ((z23 = 0 → (P 0 m24)) ∧ (¬ (z23 = 0) → ((inR (x1 * 5)) ∧ ((inR ((x1 * 5) + x2)) ∧ ((0 ≤ ((x1 * 5) + x2) ∧ ((x1 * 5) + x2) < (25 : Int)) ∧ (P (m24 (a + 2) ((x1 * 5) + x2)) m24)))))))))))) : CI l G Y_Board_width d [.inr (.inr a), .inl x1, .inl x2] m P := by
  refine CI.of [(0, .inr (.inr a)), (1, .inl x1), (2, .inl x2)] k_Board_width.1 (Nat.le_of_ble_eq_true rfl) rfl (Wp.wf (fun hw _ hl hs => ?_))
  have H0 := H hw (hl _ (List.mem_of_getElem? (i := 1) rfl)) (hl _ (List.mem_of_getElem? (i := 2) rfl))
  refine Wp.aload_n 0 0 d_Board_width_0 rfl rfl ?_
  refine Wp.iload_n 1 1 d_Board_width_1 rfl rfl ?_
  obtain ⟨e1, P2, hd3, ho4, H5⟩ := H0
  refine Wq.VI (st := []) [.inl x1] d_Board_width_2 k_Board_has ml_Board_59 rfl (isB_lay ha) rfl (fun h => by cases h) (Nat.le_of_ble_eq_true rfl) hd3 ho4 (fun z7 m8 hp9 hz10 hw11 => ?_)
  have H6 := H5 z7 m8 hp9 hz10 hw11
  obtain ⟨H13, H14⟩ := H6
  refine Wp.if_eq 29 d_Board_width_5 (by decide) (fun c12 => ?_) (fun c12 => ?_)
  · have H15 := H13 c12
    refine Wp.iconst d_Board_width_29 (by decide) ?_
    exact Wq.iret d_Board_width_30 rfl H15
  · have H16 := H14 c12
    refine Wp.aload_n 0 0 d_Board_width_8 rfl rfl ?_
    refine Wp.iload_n 2 2 d_Board_width_9 rfl rfl ?_
    obtain ⟨e17, P18, hd19, ho20, H21⟩ := H16
    refine Wq.VI (st := []) [.inl x2] d_Board_width_10 k_Board_has ml_Board_59 rfl (isB_lay ha) rfl (fun h => by cases h) (Nat.le_of_ble_eq_true rfl) hd19 ho20 (fun z23 m24 hp25 hz26 hw27 => ?_)
    have H22 := H21 z23 m24 hp25 hz26 hw27
    obtain ⟨H29, H30⟩ := H22
    refine Wp.if_eq 29 d_Board_width_13 (by decide) (fun c28 => ?_) (fun c28 => ?_)
    · have H31 := H29 c28
      refine Wp.iconst d_Board_width_29 (by decide) ?_
      exact Wq.iret d_Board_width_30 rfl H31
    · have H32 := H30 c28
      refine Wp.aload_n 0 0 d_Board_width_16 rfl rfl ?_
      refine Wp.getP (a + 2) d_Board_width_17 fl_Board_15 (isB_lay ha) rfl (isB_p6 ha) ?_
      refine Wp.iload_n 1 1 d_Board_width_20 rfl rfl ?_
      refine Wp.iconst d_Board_width_21 (by decide) ?_
      obtain ⟨s33, H34⟩ := H32
      refine Wp.imul d_Board_width_22 s33 ?_
      refine Wp.iload_n 2 2 d_Board_width_23 rfl rfl ?_
      obtain ⟨s35, H36⟩ := H34
      refine Wp.iadd d_Board_width_24 s35 ?_
      obtain ⟨s37, H38⟩ := H36
      refine Wp.iald d_Board_width_25 (isB_l6 ha) (Or.inl rfl) s37.1 s37.2 ?_
      refine Wp.goto 30 d_Board_width_26 (by decide) ?_
      exact Wq.iret d_Board_width_30 rfl H38
theorem d_Board_has_0 : decode Y_Board_has.2.1 0 = .ok (.iload_n 1, 1) := by decide +kernel
theorem d_Board_has_1 : decode Y_Board_has.2.1 1 = .ok (.ifCond .lt 15, 3) := by decide +kernel
theorem d_Board_has_4 : decode Y_Board_has.2.1 4 = .ok (.iload_n 1, 1) := by decide +kernel
theorem d_Board_has_5 : decode Y_Board_has.2.1 5 = .ok (.aload_n 0, 1) := by decide +kernel
theorem d_Board_has_6 : decode Y_Board_has.2.1 6 = .ok (.getfield 34, 3) := by decide +kernel
theorem d_Board_has_9 : decode Y_Board_has.2.1 9 = .ok (.if_icmp .ge 7, 3) := by decide +kernel
theorem d_Board_has_12 : decode Y_Board_has.2.1 12 = .ok (.iconst 1, 1) := by decide +kernel
theorem d_Board_has_13 : decode Y_Board_has.2.1 13 = .ok (.goto 4, 3) := by decide +kernel
theorem d_Board_has_16 : decode Y_Board_has.2.1 16 = .ok (.iconst 0, 1) := by decide +kernel
theorem d_Board_has_17 : decode Y_Board_has.2.1 17 = .ok (.ireturn, 1) := by decide +kernel
theorem e_Board_has {l : Launch} {G : GT} {d : Nat} {P : Int → MM → Prop} {m : MM} (x1 : Int) (a : Nat) (ha : isB a) (H : wfM m → inR x1 → (x1 < 0 → (P 0 m)) ∧ (¬ (x1 < 0) → ((x1 ≥ (m a 0) → (P 0 m)) ∧ (¬ (x1 ≥ (m a 0)) → (P 1 m))))) : CI l G Y_Board_has d [.inr (.inr a), .inl x1] m P := by
  refine CI.of [(0, .inr (.inr a)), (1, .inl x1)] k_Board_has.1 (Nat.le_of_ble_eq_true rfl) rfl (Wp.wf (fun hw _ hl hs => ?_))
  have H0 := H hw (hl _ (List.mem_of_getElem? (i := 1) rfl))
  refine Wp.iload_n 1 1 d_Board_has_0 rfl rfl ?_
  obtain ⟨H2, H3⟩ := H0
  refine Wp.if_lt 16 d_Board_has_1 (by decide) (fun c1 => ?_) (fun c1 => ?_)
  · have H4 := H2 c1
    refine Wp.iconst d_Board_has_16 (by decide) ?_
    exact Wq.zret d_Board_has_17 rfl (by decide) H4
  · have H5 := H3 c1
    refine Wp.iload_n 1 1 d_Board_has_4 rfl rfl ?_
    refine Wp.aload_n 0 0 d_Board_has_5 rfl rfl ?_
    refine Wq.getI 0 rfl d_Board_has_6 fl_Board_34 (isB_lay ha) (Or.inl rfl) ?_
    obtain ⟨H7, H8⟩ := H5
    refine Wp.icmp_ge 16 d_Board_has_9 (by decide) (fun c6 => ?_) (fun c6 => ?_)
    · have H9 := H7 c6
      refine Wp.iconst d_Board_has_16 (by decide) ?_
      exact Wq.zret d_Board_has_17 rfl (by decide) H9
    · have H10 := H8 c6
      refine Wp.iconst d_Board_has_12 (by decide) ?_
      refine Wp.goto 17 d_Board_has_13 (by decide) ?_
      exact Wq.zret d_Board_has_17 rfl (by decide) H10
theorem d_Board_join_0 : decode Y_Board_join.2.1 0 = .ok (.aload_n 0, 1) := by decide +kernel
theorem d_Board_join_1 : decode Y_Board_join.2.1 1 = .ok (.iload_n 1, 1) := by decide +kernel
theorem d_Board_join_2 : decode Y_Board_join.2.1 2 = .ok (.invokevirtual 59, 3) := by decide +kernel
theorem d_Board_join_5 : decode Y_Board_join.2.1 5 = .ok (.ifCond .eq 43, 3) := by decide +kernel
theorem d_Board_join_8 : decode Y_Board_join.2.1 8 = .ok (.aload_n 0, 1) := by decide +kernel
theorem d_Board_join_9 : decode Y_Board_join.2.1 9 = .ok (.iload_n 2, 1) := by decide +kernel
theorem d_Board_join_10 : decode Y_Board_join.2.1 10 = .ok (.invokevirtual 59, 3) := by decide +kernel
theorem d_Board_join_13 : decode Y_Board_join.2.1 13 = .ok (.ifCond .eq 35, 3) := by decide +kernel
theorem d_Board_join_16 : decode Y_Board_join.2.1 16 = .ok (.aload_n 0, 1) := by decide +kernel
theorem d_Board_join_17 : decode Y_Board_join.2.1 17 = .ok (.getfield 15, 3) := by decide +kernel
theorem d_Board_join_20 : decode Y_Board_join.2.1 20 = .ok (.iload_n 1, 1) := by decide +kernel
theorem d_Board_join_21 : decode Y_Board_join.2.1 21 = .ok (.iconst 5, 1) := by decide +kernel
theorem d_Board_join_22 : decode Y_Board_join.2.1 22 = .ok (.imul, 1) := by decide +kernel
theorem d_Board_join_23 : decode Y_Board_join.2.1 23 = .ok (.iload_n 2, 1) := by decide +kernel
theorem d_Board_join_24 : decode Y_Board_join.2.1 24 = .ok (.iadd, 1) := by decide +kernel
theorem d_Board_join_25 : decode Y_Board_join.2.1 25 = .ok (.iload_n 3, 1) := by decide +kernel
theorem d_Board_join_26 : decode Y_Board_join.2.1 26 = .ok (.iastore, 1) := by decide +kernel
theorem d_Board_join_27 : decode Y_Board_join.2.1 27 = .ok (.aload_n 0, 1) := by decide +kernel
theorem d_Board_join_28 : decode Y_Board_join.2.1 28 = .ok (.getfield 15, 3) := by decide +kernel
theorem d_Board_join_31 : decode Y_Board_join.2.1 31 = .ok (.iload_n 2, 1) := by decide +kernel
theorem d_Board_join_32 : decode Y_Board_join.2.1 32 = .ok (.iconst 5, 1) := by decide +kernel
theorem d_Board_join_33 : decode Y_Board_join.2.1 33 = .ok (.imul, 1) := by decide +kernel
theorem d_Board_join_34 : decode Y_Board_join.2.1 34 = .ok (.iload_n 1, 1) := by decide +kernel
theorem d_Board_join_35 : decode Y_Board_join.2.1 35 = .ok (.iadd, 1) := by decide +kernel
theorem d_Board_join_36 : decode Y_Board_join.2.1 36 = .ok (.iload_n 3, 1) := by decide +kernel
theorem d_Board_join_37 : decode Y_Board_join.2.1 37 = .ok (.iastore, 1) := by decide +kernel
theorem d_Board_join_38 : decode Y_Board_join.2.1 38 = .ok (.aload_n 0, 1) := by decide +kernel
theorem d_Board_join_39 : decode Y_Board_join.2.1 39 = .ok (.dup, 1) := by decide +kernel
theorem d_Board_join_40 : decode Y_Board_join.2.1 40 = .ok (.getfield 38, 3) := by decide +kernel
theorem d_Board_join_43 : decode Y_Board_join.2.1 43 = .ok (.iconst 1, 1) := by decide +kernel
theorem d_Board_join_44 : decode Y_Board_join.2.1 44 = .ok (.iadd, 1) := by decide +kernel
theorem d_Board_join_45 : decode Y_Board_join.2.1 45 = .ok (.putfield 38, 3) := by decide +kernel
theorem d_Board_join_48 : decode Y_Board_join.2.1 48 = .ok (.return_, 1) := by decide +kernel
theorem e_Board_join {l : Launch} {G : GT} {d : Nat} {P : MM → Prop} {m : MM} (x1 : Int) (x2 : Int) (x3 : Int) (a : Nat) (ha : isB a) (H : wfM m → inR x1 → inR x2 → inR x3 → ∃ (e1 : Nat) (P2 : Int → MM → Prop), e1 < d ∧ CI l G Y_Board_has e1 [.inr (.inr a), .inl x1] m P2 ∧ (∀ z7 m8, P2 z7 m8 → inR z7 → wfM m8 → ((z7 = 0 → (P m8)) ∧ (¬ (z7 = 0) → (∃ (e17 : Nat) (P18 : Int → MM → Prop), e17 < d ∧ CI l G Y_Board_has e17 [.inr (.inr a), .inl x2] m8 P18 ∧ (∀ z23 m24, P18 z23 m24 → inR z23 → wfM m24 → ((z23 = 0 → (P m24)) ∧ (¬ (z23 = 0) → ((inR (x1 * 5)) ∧ ((inR ((x1 * 5) + x2)) ∧ ((0 ≤ ((x1 * 5) + x2) ∧ ((x1 * 5) + x2) < (25 : Int)) ∧ (∀ m37, m37 = up m24 (a + 2) ((x1 * 5) + x2) x3 → ((inR (x2 * 5)) ∧ ((inR ((x2 * 5) + x1)) ∧ ((0 ≤ ((x2 * 5) + x1) ∧ ((x2 * 5) + x1) < (25 : Int)) ∧ (∀ m46, m46 = up m37 (a + 2) ((x2 * 5) + x1) x3 → ((inR ((m46 a 1) + 1)) ∧ (∀ m53, m53 = up m46 a 1 ((m46 a 1) + 1) → (P m53))))))))))))))))))) : CV l G Y_Board_join d [.inr (.inr a), .inl x1, .inl x2, .inl x3] m P := by
  refine CV.of [(0, .inr (.inr a)), (1, .inl x1), (2, .inl x2), (3, .inl x3)] k_Board_join.1 (Nat.le_of_ble_eq_true rfl) rfl (Wp.wf (fun hw _ hl hs => ?_))
  have H0 := H hw (hl _ (List.mem_of_getElem? (i := 1) rfl)) (hl _ (List.mem_of_getElem? (i := 2) rfl)) (hl _ (List.mem_of_getElem? (i := 3) rfl))
  refine Wp.aload_n 0 0 d_Board_join_0 rfl rfl ?_
  refine Wp.iload_n 1 1 d_Board_join_1 rfl rfl ?_
  obtain ⟨e1, P2, hd3, ho4, H5⟩ := H0
  refine Wq.VI (st := []) [.inl x1] d_Board_join_2 k_Board_has ml_Board_59 rfl (isB_lay ha) rfl (fun h => by cases h) (Nat.le_of_ble_eq_true rfl) hd3 ho4 (fun z7 m8 hp9 hz10 hw11 => ?_)
  have H6 := H5 z7 m8 hp9 hz10 hw11
  obtain ⟨H13, H14⟩ := H6
  refine Wp.if_eq 48 d_Board_join_5 (by decide) (fun c12 => ?_) (fun c12 => ?_)
  · have H15 := H13 c12
    exact Wq.vret d_Board_join_48 rfl H15
  · have H16 := H14 c12
    refine Wp.aload_n 0 0 d_Board_join_8 rfl rfl ?_
    refine Wp.iload_n 2 2 d_Board_join_9 rfl rfl ?_
    obtain ⟨e17, P18, hd19, ho20, H21⟩ := H16
    refine Wq.VI (st := []) [.inl x2] d_Board_join_10 k_Board_has ml_Board_59 rfl (isB_lay ha) rfl (fun h => by cases h) (Nat.le_of_ble_eq_true rfl) hd19 ho20 (fun z23 m24 hp25 hz26 hw27 => ?_)
    have H22 := H21 z23 m24 hp25 hz26 hw27
    obtain ⟨H29, H30⟩ := H22
    refine Wp.if_eq 48 d_Board_join_13 (by decide) (fun c28 => ?_) (fun c28 => ?_)
    · have H31 := H29 c28
      exact Wq.vret d_Board_join_48 rfl H31
    · have H32 := H30 c28
      refine Wp.aload_n 0 0 d_Board_join_16 rfl rfl ?_
      refine Wp.getP (a + 2) d_Board_join_17 fl_Board_15 (isB_lay ha) rfl (isB_p6 ha) ?_
      refine Wp.iload_n 1 1 d_Board_join_20 rfl rfl ?_
      refine Wp.iconst d_Board_join_21 (by decide) ?_
      obtain ⟨s33, H34⟩ := H32
      refine Wp.imul d_Board_join_22 s33 ?_
      refine Wp.iload_n 2 2 d_Board_join_23 rfl rfl ?_
      obtain ⟨s35, H36⟩ := H34
      refine Wp.iadd d_Board_join_24 s35 ?_
      refine Wp.iload_n 3 3 d_Board_join_25 rfl rfl ?_
      obtain ⟨s58, H59⟩ := H36
      refine Wq.iast d_Board_join_26 (isB_l6 ha) s58.1 s58.2 (fun m37 hm38 => ?_)
      have H39 := H59 m37 hm38
      refine Wp.aload_n 0 0 d_Board_join_27 rfl rfl ?_
      refine Wp.getP (a + 2) d_Board_join_28 fl_Board_15 (isB_lay ha) rfl (isB_p6 ha) ?_
      refine Wp.iload_n 2 2 d_Board_join_31 rfl rfl ?_
      refine Wp.iconst d_Board_join_32 (by decide) ?_
      obtain ⟨s42, H43⟩ := H39
      refine Wp.imul d_Board_join_33 s42 ?_
      refine Wp.iload_n 1 1 d_Board_join_34 rfl rfl ?_
      obtain ⟨s44, H45⟩ := H43
      refine Wp.iadd d_Board_join_35 s44 ?_
      refine Wp.iload_n 3 3 d_Board_join_36 rfl rfl ?_
      obtain ⟨s56, H57⟩ := H45
      refine Wq.iast d_Board_join_37 (isB_l6 ha) s56.1 s56.2 (fun m46 hm47 => ?_)
      have H48 := H57 m46 hm47
      refine Wp.aload_n 0 0 d_Board_join_38 rfl rfl ?_
      refine Wp.dup d_Board_join_39 rfl ?_
      refine Wq.getI 1 rfl d_Board_join_40 fl_Board_38 (isB_lay ha) (Or.inl rfl) ?_
      refine Wp.iconst d_Board_join_43 (by decide) ?_
      obtain ⟨s51, H52⟩ := H48
      refine Wp.iadd d_Board_join_44 s51 ?_
      refine Wq.putI 1 rfl d_Board_join_45 fl_Board_38 (fun _ _ _ h => by cases h; rfl) (isB_lay ha) (isB_n1 ha) rfl (fun m53 hm54 => ?_)
      have H55 := H52 m53 hm54
      exact Wq.vret d_Board_join_48 rfl H55
theorem d_Board_joinDrain_0 : decode Y_Board_joinDrain.2.1 0 = .ok (.aload_n 0, 1) := by decide +kernel
theorem d_Board_joinDrain_1 : decode Y_Board_joinDrain.2.1 1 = .ok (.iload_n 1, 1) := by decide +kernel
theorem d_Board_joinDrain_2 : decode Y_Board_joinDrain.2.1 2 = .ok (.invokevirtual 59, 3) := by decide +kernel
theorem d_Board_joinDrain_5 : decode Y_Board_joinDrain.2.1 5 = .ok (.ifCond .eq 20, 3) := by decide +kernel
theorem d_Board_joinDrain_8 : decode Y_Board_joinDrain.2.1 8 = .ok (.aload_n 0, 1) := by decide +kernel
theorem d_Board_joinDrain_9 : decode Y_Board_joinDrain.2.1 9 = .ok (.getfield 18, 3) := by decide +kernel
theorem d_Board_joinDrain_12 : decode Y_Board_joinDrain.2.1 12 = .ok (.iload_n 1, 1) := by decide +kernel
theorem d_Board_joinDrain_13 : decode Y_Board_joinDrain.2.1 13 = .ok (.iload_n 2, 1) := by decide +kernel
theorem d_Board_joinDrain_14 : decode Y_Board_joinDrain.2.1 14 = .ok (.iastore, 1) := by decide +kernel
theorem d_Board_joinDrain_15 : decode Y_Board_joinDrain.2.1 15 = .ok (.aload_n 0, 1) := by decide +kernel
theorem d_Board_joinDrain_16 : decode Y_Board_joinDrain.2.1 16 = .ok (.dup, 1) := by decide +kernel
theorem d_Board_joinDrain_17 : decode Y_Board_joinDrain.2.1 17 = .ok (.getfield 38, 3) := by decide +kernel
theorem d_Board_joinDrain_20 : decode Y_Board_joinDrain.2.1 20 = .ok (.iconst 1, 1) := by decide +kernel
theorem d_Board_joinDrain_21 : decode Y_Board_joinDrain.2.1 21 = .ok (.iadd, 1) := by decide +kernel
theorem d_Board_joinDrain_22 : decode Y_Board_joinDrain.2.1 22 = .ok (.putfield 38, 3) := by decide +kernel
theorem d_Board_joinDrain_25 : decode Y_Board_joinDrain.2.1 25 = .ok (.return_, 1) := by decide +kernel
theorem e_Board_joinDrain {l : Launch} {G : GT} {d : Nat} {P : MM → Prop} {m : MM} (x1 : Int) (x2 : Int) (a : Nat) (ha : isB a) (H : wfM m → inR x1 → inR x2 → ∃ (e1 : Nat) (P2 : Int → MM → Prop), e1 < d ∧ CI l G Y_Board_has e1 [.inr (.inr a), .inl x1] m P2 ∧ (∀ z7 m8, P2 z7 m8 → inR z7 → wfM m8 → ((z7 = 0 → (P m8)) ∧ (¬ (z7 = 0) → ((0 ≤ x1 ∧ x1 < (5 : Int)) ∧ (∀ m17, m17 = up m8 (a + 3) x1 x2 → ((inR ((m17 a 1) + 1)) ∧ (∀ m24, m24 = up m17 a 1 ((m17 a 1) + 1) → (P m24))))))))) : CV l G Y_Board_joinDrain d [.inr (.inr a), .inl x1, .inl x2] m P := by
  refine CV.of [(0, .inr (.inr a)), (1, .inl x1), (2, .inl x2)] k_Board_joinDrain.1 (Nat.le_of_ble_eq_true rfl) rfl (Wp.wf (fun hw _ hl hs => ?_))
  have H0 := H hw (hl _ (List.mem_of_getElem? (i := 1) rfl)) (hl _ (List.mem_of_getElem? (i := 2) rfl))
  refine Wp.aload_n 0 0 d_Board_joinDrain_0 rfl rfl ?_
  refine Wp.iload_n 1 1 d_Board_joinDrain_1 rfl rfl ?_
  obtain ⟨e1, P2, hd3, ho4, H5⟩ := H0
  refine Wq.VI (st := []) [.inl x1] d_Board_joinDrain_2 k_Board_has ml_Board_59 rfl (isB_lay ha) rfl (fun h => by cases h) (Nat.le_of_ble_eq_true rfl) hd3 ho4 (fun z7 m8 hp9 hz10 hw11 => ?_)
  have H6 := H5 z7 m8 hp9 hz10 hw11
  obtain ⟨H13, H14⟩ := H6
  refine Wp.if_eq 25 d_Board_joinDrain_5 (by decide) (fun c12 => ?_) (fun c12 => ?_)
  · have H15 := H13 c12
    exact Wq.vret d_Board_joinDrain_25 rfl H15
  · have H16 := H14 c12
    refine Wp.aload_n 0 0 d_Board_joinDrain_8 rfl rfl ?_
    refine Wp.getP (a + 3) d_Board_joinDrain_9 fl_Board_18 (isB_lay ha) rfl (isB_p7 ha) ?_
    refine Wp.iload_n 1 1 d_Board_joinDrain_12 rfl rfl ?_
    refine Wp.iload_n 2 2 d_Board_joinDrain_13 rfl rfl ?_
    obtain ⟨s27, H28⟩ := H16
    refine Wq.iast d_Board_joinDrain_14 (isB_l7 ha) s27.1 s27.2 (fun m17 hm18 => ?_)
    have H19 := H28 m17 hm18
    refine Wp.aload_n 0 0 d_Board_joinDrain_15 rfl rfl ?_
    refine Wp.dup d_Board_joinDrain_16 rfl ?_
    refine Wq.getI 1 rfl d_Board_joinDrain_17 fl_Board_38 (isB_lay ha) (Or.inl rfl) ?_
    refine Wp.iconst d_Board_joinDrain_20 (by decide) ?_
    obtain ⟨s22, H23⟩ := H19
    refine Wp.iadd d_Board_joinDrain_21 s22 ?_
    refine Wq.putI 1 rfl d_Board_joinDrain_22 fl_Board_38 (fun _ _ _ h => by cases h; rfl) (isB_lay ha) (isB_n1 ha) rfl (fun m24 hm25 => ?_)
    have H26 := H23 m24 hm25
    exact Wq.vret d_Board_joinDrain_25 rfl H26
theorem d_Board_finish_0 : decode Y_Board_finish.2.1 0 = .ok (.iconst 1, 1) := by decide +kernel
theorem d_Board_finish_1 : decode Y_Board_finish.2.1 1 = .ok (.aload_n 0, 1) := by decide +kernel
theorem d_Board_finish_2 : decode Y_Board_finish.2.1 2 = .ok (.getfield 34, 3) := by decide +kernel
theorem d_Board_finish_5 : decode Y_Board_finish.2.1 5 = .ok (.ishl, 1) := by decide +kernel
theorem d_Board_finish_6 : decode Y_Board_finish.2.1 6 = .ok (.iconst 1, 1) := by decide +kernel
theorem d_Board_finish_7 : decode Y_Board_finish.2.1 7 = .ok (.isub, 1) := by decide +kernel
theorem d_Board_finish_8 : decode Y_Board_finish.2.1 8 = .ok (.istore_n 1, 1) := by decide +kernel
theorem d_Board_finish_9 : decode Y_Board_finish.2.1 9 = .ok (.iconst 0, 1) := by decide +kernel
theorem d_Board_finish_10 : decode Y_Board_finish.2.1 10 = .ok (.istore_n 2, 1) := by decide +kernel
theorem d_Board_finish_11 : decode Y_Board_finish.2.1 11 = .ok (.iload_n 2, 1) := by decide +kernel
theorem d_Board_finish_12 : decode Y_Board_finish.2.1 12 = .ok (.aload_n 0, 1) := by decide +kernel
theorem d_Board_finish_13 : decode Y_Board_finish.2.1 13 = .ok (.getfield 34, 3) := by decide +kernel
theorem d_Board_finish_16 : decode Y_Board_finish.2.1 16 = .ok (.if_icmp .ge 21, 3) := by decide +kernel
theorem d_Board_finish_19 : decode Y_Board_finish.2.1 19 = .ok (.aload_n 0, 1) := by decide +kernel
theorem d_Board_finish_20 : decode Y_Board_finish.2.1 20 = .ok (.getfield 21, 3) := by decide +kernel
theorem d_Board_finish_23 : decode Y_Board_finish.2.1 23 = .ok (.iload_n 2, 1) := by decide +kernel
theorem d_Board_finish_24 : decode Y_Board_finish.2.1 24 = .ok (.aload_n 0, 1) := by decide +kernel
theorem d_Board_finish_25 : decode Y_Board_finish.2.1 25 = .ok (.iload_n 2, 1) := by decide +kernel
theorem d_Board_finish_26 : decode Y_Board_finish.2.1 26 = .ok (.iload_n 1, 1) := by decide +kernel
theorem d_Board_finish_27 : decode Y_Board_finish.2.1 27 = .ok (.invokevirtual 70, 3) := by decide +kernel
theorem d_Board_finish_30 : decode Y_Board_finish.2.1 30 = .ok (.iastore, 1) := by decide +kernel
theorem d_Board_finish_31 : decode Y_Board_finish.2.1 31 = .ok (.iinc 2 1, 3) := by decide +kernel
theorem d_Board_finish_34 : decode Y_Board_finish.2.1 34 = .ok (.goto (-23), 3) := by decide +kernel
theorem d_Board_finish_37 : decode Y_Board_finish.2.1 37 = .ok (.iconst 0, 1) := by decide +kernel
theorem d_Board_finish_38 : decode Y_Board_finish.2.1 38 = .ok (.istore_n 2, 1) := by decide +kernel
theorem d_Board_finish_39 : decode Y_Board_finish.2.1 39 = .ok (.iconst 1, 1) := by decide +kernel
theorem d_Board_finish_40 : decode Y_Board_finish.2.1 40 = .ok (.istore_n 3, 1) := by decide +kernel
theorem d_Board_finish_41 : decode Y_Board_finish.2.1 41 = .ok (.iload_n 3, 1) := by decide +kernel
theorem d_Board_finish_42 : decode Y_Board_finish.2.1 42 = .ok (.iconst 5, 1) := by decide +kernel
theorem d_Board_finish_43 : decode Y_Board_finish.2.1 43 = .ok (.if_icmp .gt 69, 3) := by decide +kernel
theorem d_Board_finish_46 : decode Y_Board_finish.2.1 46 = .ok (.iload_n 2, 1) := by decide +kernel
theorem d_Board_finish_47 : decode Y_Board_finish.2.1 47 = .ok (.istore 4, 2) := by decide +kernel
theorem d_Board_finish_49 : decode Y_Board_finish.2.1 49 = .ok (.iconst 0, 1) := by decide +kernel
theorem d_Board_finish_50 : decode Y_Board_finish.2.1 50 = .ok (.istore 5, 2) := by decide +kernel
theorem d_Board_finish_52 : decode Y_Board_finish.2.1 52 = .ok (.iload 5, 2) := by decide +kernel
theorem d_Board_finish_54 : decode Y_Board_finish.2.1 54 = .ok (.aload_n 0, 1) := by decide +kernel
theorem d_Board_finish_55 : decode Y_Board_finish.2.1 55 = .ok (.getfield 34, 3) := by decide +kernel
theorem d_Board_finish_58 : decode Y_Board_finish.2.1 58 = .ok (.if_icmp .ge 45, 3) := by decide +kernel
theorem d_Board_finish_61 : decode Y_Board_finish.2.1 61 = .ok (.iload_n 2, 1) := by decide +kernel
theorem d_Board_finish_62 : decode Y_Board_finish.2.1 62 = .ok (.iload 5, 2) := by decide +kernel
theorem d_Board_finish_64 : decode Y_Board_finish.2.1 64 = .ok (.ishr, 1) := by decide +kernel
theorem d_Board_finish_65 : decode Y_Board_finish.2.1 65 = .ok (.iconst 1, 1) := by decide +kernel
theorem d_Board_finish_66 : decode Y_Board_finish.2.1 66 = .ok (.iand, 1) := by decide +kernel
theorem d_Board_finish_67 : decode Y_Board_finish.2.1 67 = .ok (.ifCond .ne 30, 3) := by decide +kernel
theorem d_Board_finish_70 : decode Y_Board_finish.2.1 70 = .ok (.aload_n 0, 1) := by decide +kernel
theorem d_Board_finish_71 : decode Y_Board_finish.2.1 71 = .ok (.iload 5, 2) := by decide +kernel
theorem d_Board_finish_73 : decode Y_Board_finish.2.1 73 = .ok (.iload_n 2, 1) := by decide +kernel
theorem d_Board_finish_74 : decode Y_Board_finish.2.1 74 = .ok (.invokevirtual 70, 3) := by decide +kernel
theorem d_Board_finish_77 : decode Y_Board_finish.2.1 77 = .ok (.ifCond .le 20, 3) := by decide +kernel
theorem d_Board_finish_80 : decode Y_Board_finish.2.1 80 = .ok (.aload_n 0, 1) := by decide +kernel
theorem d_Board_finish_81 : decode Y_Board_finish.2.1 81 = .ok (.getfield 24, 3) := by decide +kernel
theorem d_Board_finish_84 : decode Y_Board_finish.2.1 84 = .ok (.iload 5, 2) := by decide +kernel
theorem d_Board_finish_86 : decode Y_Board_finish.2.1 86 = .ok (.iload_n 3, 1) := by decide +kernel
theorem d_Board_finish_87 : decode Y_Board_finish.2.1 87 = .ok (.iastore, 1) := by decide +kernel
theorem d_Board_finish_88 : decode Y_Board_finish.2.1 88 = .ok (.iload 4, 2) := by decide +kernel
theorem d_Board_finish_90 : decode Y_Board_finish.2.1 90 = .ok (.iconst 1, 1) := by decide +kernel
theorem d_Board_finish_91 : decode Y_Board_finish.2.1 91 = .ok (.iload 5, 2) := by decide +kernel
theorem d_Board_finish_93 : decode Y_Board_finish.2.1 93 = .ok (.ishl, 1) := by decide +kernel
theorem d_Board_finish_94 : decode Y_Board_finish.2.1 94 = .ok (.ior, 1) := by decide +kernel
theorem d_Board_finish_95 : decode Y_Board_finish.2.1 95 = .ok (.istore 4, 2) := by decide +kernel
theorem d_Board_finish_97 : decode Y_Board_finish.2.1 97 = .ok (.iinc 5 1, 3) := by decide +kernel
theorem d_Board_finish_100 : decode Y_Board_finish.2.1 100 = .ok (.goto (-48), 3) := by decide +kernel
theorem d_Board_finish_103 : decode Y_Board_finish.2.1 103 = .ok (.iload 4, 2) := by decide +kernel
theorem d_Board_finish_105 : decode Y_Board_finish.2.1 105 = .ok (.istore_n 2, 1) := by decide +kernel
theorem d_Board_finish_106 : decode Y_Board_finish.2.1 106 = .ok (.iinc 3 1, 3) := by decide +kernel
theorem d_Board_finish_109 : decode Y_Board_finish.2.1 109 = .ok (.goto (-68), 3) := by decide +kernel
theorem d_Board_finish_112 : decode Y_Board_finish.2.1 112 = .ok (.iload_n 2, 1) := by decide +kernel
theorem d_Board_finish_113 : decode Y_Board_finish.2.1 113 = .ok (.iload_n 1, 1) := by decide +kernel
theorem d_Board_finish_114 : decode Y_Board_finish.2.1 114 = .ok (.if_icmp .ne 7, 3) := by decide +kernel
theorem d_Board_finish_117 : decode Y_Board_finish.2.1 117 = .ok (.iconst 1, 1) := by decide +kernel
theorem d_Board_finish_118 : decode Y_Board_finish.2.1 118 = .ok (.goto 4, 3) := by decide +kernel
theorem d_Board_finish_121 : decode Y_Board_finish.2.1 121 = .ok (.iconst 0, 1) := by decide +kernel
theorem d_Board_finish_122 : decode Y_Board_finish.2.1 122 = .ok (.ireturn, 1) := by decide +kernel
theorem e_Board_finish {l : Launch} {G : GT} {d : Nat} {P : Int → MM → Prop} {m : MM} (a : Nat) (ha : isB a) (H : wfM m → (inR ((bShl 1 (m a 0)) - 1)) ∧ (Wq l G false Y_Board_finish d (QI P) 11 [(0, .inr (.inr a)), (1, .inl ((bShl 1 (m a 0)) - 1)), (2, .inl 0)] [] m)) : CI l G Y_Board_finish d [.inr (.inr a)] m P := by
  refine CI.of [(0, .inr (.inr a))] k_Board_finish.1 (Nat.le_of_ble_eq_true rfl) rfl (Wp.wf (fun hw _ hl hs => ?_))
  have H0 := H hw
  refine Wp.iconst d_Board_finish_0 (by decide) ?_
  refine Wp.aload_n 0 0 d_Board_finish_1 rfl rfl ?_
  refine Wq.getI 0 rfl d_Board_finish_2 fl_Board_34 (isB_lay ha) (Or.inl rfl) ?_
  refine Wp.ishl d_Board_finish_5 ?_
  refine Wp.iconst d_Board_finish_6 (by decide) ?_
  obtain ⟨s1, H2⟩ := H0
  refine Wp.isub d_Board_finish_7 s1 ?_
  refine Wp.istore_n 1 [(0, .inr (.inr a)), (1, .inl ((bShl 1 (m a 0)) - 1))] d_Board_finish_8 rfl (by decide) rfl ?_
  refine Wp.iconst d_Board_finish_9 (by decide) ?_
  refine Wp.istore_n 2 [(0, .inr (.inr a)), (1, .inl ((bShl 1 (m a 0)) - 1)), (2, .inl 0)] d_Board_finish_10 rfl (by decide) rfl ?_
  exact H2
theorem s_Board_finish_11 {l : Launch} {G : GT} {d : Nat} {P : Int → MM → Prop} {m : MM} (x1 : Int) (x2 : Int) (a : Nat) (ha : isB a) (H : wfM m → inR x1 → inR x2 → (x2 ≥ (m a 0) → (Wq l G false Y_Board_finish d (QI P) 41 [(0, .inr (.inr a)), (1, .inl x1), (2, .inl 0), (3, .inl 1)] [] m)) ∧ (¬ (x2 ≥ (m a 0)) → (∃ (e6 : Nat) (P7 : Int → MM → Prop), e6 < d ∧ CI l G Y_Board_widthToBurnt e6 [.inr (.inr a), .inl x2, .inl x1] m P7 ∧ (∀ z12 m13, P7 z12 m13 → inR z12 → wfM m13 → ((0 ≤ x2 ∧ x2 < (5 : Int)) ∧ (∀ m17, m17 = up m13 (a + 4) x2 z12 → ((inR (x2 + 1)) ∧ (Wq l G false Y_Board_finish d (QI P) 11 [(0, .inr (.inr a)), (1, .inl x1), (2, .inl (x2 + 1))] [] m17)))))))) : Wq l G false Y_Board_finish d (QI P) 11 [(0, .inr (.inr a)), (1, .inl x1), (2, .inl x2)] [] m := by
  refine Wp.wf (fun hw _ hl hs => ?_)
  have H0 := H hw (hl _ (List.mem_of_getElem? (i := 1) rfl)) (hl _ (List.mem_of_getElem? (i := 2) rfl))
  refine Wp.iload_n 2 2 d_Board_finish_11 rfl rfl ?_
  refine Wp.aload_n 0 0 d_Board_finish_12 rfl rfl ?_
  refine Wq.getI 0 rfl d_Board_finish_13 fl_Board_34 (isB_lay ha) (Or.inl rfl) ?_
  obtain ⟨H2, H3⟩ := H0
  refine Wp.icmp_ge 37 d_Board_finish_16 (by decide) (fun c1 => ?_) (fun c1 => ?_)
  · have H4 := H2 c1
    refine Wp.iconst d_Board_finish_37 (by decide) ?_
    refine Wp.istore_n 2 [(0, .inr (.inr a)), (1, .inl x1), (2, .inl 0)] d_Board_finish_38 rfl (by decide) rfl ?_
    refine Wp.iconst d_Board_finish_39 (by decide) ?_
    refine Wp.istore_n 3 [(0, .inr (.inr a)), (1, .inl x1), (2, .inl 0), (3, .inl 1)] d_Board_finish_40 rfl (by decide) rfl ?_
    exact H4
  · have H5 := H3 c1
    refine Wp.aload_n 0 0 d_Board_finish_19 rfl rfl ?_
    refine Wp.getP (a + 4) d_Board_finish_20 fl_Board_21 (isB_lay ha) rfl (isB_p8 ha) ?_
    refine Wp.iload_n 2 2 d_Board_finish_23 rfl rfl ?_
    refine Wp.aload_n 0 0 d_Board_finish_24 rfl rfl ?_
    refine Wp.iload_n 2 2 d_Board_finish_25 rfl rfl ?_
    refine Wp.iload_n 1 1 d_Board_finish_26 rfl rfl ?_
    obtain ⟨e6, P7, hd8, ho9, H10⟩ := H5
    refine Wq.VI (st := [.inl x2, .inr (.inr (a + 4))]) [.inl x2, .inl x1] d_Board_finish_27 k_Board_widthToBurnt ml_Board_70 rfl (isB_lay ha) rfl (fun h => by cases h) (Nat.le_of_ble_eq_true rfl) hd8 ho9 (fun z12 m13 hp14 hz15 hw16 => ?_)
    have H11 := H10 z12 m13 hp14 hz15 hw16
    obtain ⟨s24, H25⟩ := H11
    refine Wq.iast d_Board_finish_30 (isB_l8 ha) s24.1 s24.2 (fun m17 hm18 => ?_)
    have H19 := H25 m17 hm18
    obtain ⟨s22, H23⟩ := H19
    refine Wp.iinc 2 2 [(0, .inr (.inr a)), (1, .inl x1), (2, .inl (x2 + 1))] d_Board_finish_31 rfl s22 (by decide) rfl ?_
    refine Wp.goto 11 d_Board_finish_34 (by decide) ?_
    exact H23
theorem s_Board_finish_41 {l : Launch} {G : GT} {d : Nat} {P : Int → MM → Prop} {m : MM} (x1 : Int) (x2 : Int) (x3 : Int) (a : Nat) (ha : isB a) (H : wfM m → inR x1 → inR x2 → inR x3 → (x3 > 5 → ((x2 ≠ x1 → (P 0 m)) ∧ (¬ (x2 ≠ x1) → (P 1 m)))) ∧ (¬ (x3 > 5) → (Wq l G false Y_Board_finish d (QI P) 52 [(0, .inr (.inr a)), (1, .inl x1), (2, .inl x2), (3, .inl x3), (4, .inl x2), (5, .inl 0)] [] m))) : Wq l G false Y_Board_finish d (QI P) 41 [(0, .inr (.inr a)), (1, .inl x1), (2, .inl x2), (3, .inl x3)] [] m := by
  refine Wp.wf (fun hw _ hl hs => ?_)
  have H0 := H hw (hl _ (List.mem_of_getElem? (i := 1) rfl)) (hl _ (List.mem_of_getElem? (i := 2) rfl)) (hl _ (List.mem_of_getElem? (i := 3) rfl))
  refine Wp.iload_n 3 3 d_Board_finish_41 rfl rfl ?_
  refine Wp.iconst d_Board_finish_42 (by decide) ?_
  obtain ⟨H2, H3⟩ := H0
  refine Wp.icmp_gt 112 d_Board_finish_43 (by decide) (fun c1 => ?_) (fun c1 => ?_)
  · have H4 := H2 c1
    refine Wp.iload_n 2 2 d_Board_finish_112 rfl rfl ?_
    refine Wp.iload_n 1 1 d_Board_finish_113 rfl rfl ?_
    obtain ⟨H7, H8⟩ := H4
    refine Wp.icmp_ne 121 d_Board_finish_114 (by decide) (fun c6 => ?_) (fun c6 => ?_)
    · have H9 := H7 c6
      refine Wp.iconst d_Board_finish_121 (by decide) ?_
      exact Wq.zret d_Board_finish_122 rfl (by decide) H9
    · have H10 := H8 c6
      refine Wp.iconst d_Board_finish_117 (by decide) ?_
      refine Wp.goto 122 d_Board_finish_118 (by decide) ?_
      exact Wq.zret d_Board_finish_122 rfl (by decide) H10
  · have H5 := H3 c1
    refine Wp.iload_n 2 2 d_Board_finish_46 rfl rfl ?_
    refine Wp.istore 4 [(0, .inr (.inr a)), (1, .inl x1), (2, .inl x2), (3, .inl x3), (4, .inl x2)] d_Board_finish_47 (by decide) rfl ?_
    refine Wp.iconst d_Board_finish_49 (by decide) ?_
    refine Wp.istore 5 [(0, .inr (.inr a)), (1, .inl x1), (2, .inl x2), (3, .inl x3), (4, .inl x2), (5, .inl 0)] d_Board_finish_50 (by decide) rfl ?_
    exact H5
theorem s_Board_finish_52 {l : Launch} {G : GT} {d : Nat} {P : Int → MM → Prop} {m : MM} (x1 : Int) (x2 : Int) (x3 : Int) (x4 : Int) (x5 : Int) (a : Nat) (ha : isB a) (H : wfM m → inR x1 → inR x2 → inR x3 → inR x4 → inR x5 → (x5 ≥ (m a 0) → ((inR (x3 + 1)) ∧ (Wq l G false Y_Board_finish d (QI P) 41 [(0, .inr (.inr a)), (1, .inl x1), (2, .inl x4), (3, .inl (x3 + 1))] [] m))) ∧ (¬ (x5 ≥ (m a 0)) → (((bAnd (bShr x2 x5) 1) ≠ 0 → ((inR (x5 + 1)) ∧ (Wq l G false Y_Board_finish d (QI P) 52 [(0, .inr (.inr a)), (1, .inl x1), (2, .inl x2), (3, .inl x3), (4, .inl x4), (5, .inl (x5 + 1))] [] m))) ∧ (¬ ((bAnd (bShr x2 x5) 1) ≠ 0) → (∃ (e15 : Nat) (P16 : Int → MM → Prop), e15 < d ∧ CI l G Y_Board_widthToBurnt e15 [.inr (.inr a), .inl x5, .inl x2] m P16 ∧ (∀ z21 m22, P16 z21 m22 → inR z21 → wfM m22 → ((z21 ≤ 0 → ((inR (x5 + 1)) ∧ (Wq l G false Y_Board_finish d (QI P) 52 [(0, .inr (.inr a)), (1, .inl x1), (2, .inl x2), (3, .inl x3), (4, .inl x4), (5, .inl (x5 + 1))] [] m22))) ∧ (¬ (z21 ≤ 0) → ((0 ≤ x5 ∧ x5 < (5 : Int)) ∧ (∀ m33, m33 = up m22 (a + 5) x5 x3 → ((inR (x5 + 1)) ∧ (Wq l G false Y_Board_finish d (QI P) 52 [(0, .inr (.inr a)), (1, .inl x1), (2, .inl x2), (3, .inl x3), (4, .inl (bOr x4 (bShl 1 x5))), (5, .inl (x5 + 1))] [] m33)))))))))))) : Wq l G false Y_Board_finish d (QI P) 52 [(0, .inr (.inr a)), (1, .inl x1), (2, .inl x2), (3, .inl x3), (4, .inl x4), (5, .inl x5)] [] m := by
  refine Wp.wf (fun hw _ hl hs => ?_)
  have H0 := H hw (hl _ (List.mem_of_getElem? (i := 1) rfl)) (hl _ (List.mem_of_getElem? (i := 2) rfl)) (hl _ (List.mem_of_getElem? (i := 3) rfl)) (hl _ (List.mem_of_getElem? (i := 4) rfl)) (hl _ (List.mem_of_getElem? (i := 5) rfl))
  refine Wp.iload 5 5 d_Board_finish_52 rfl ?_
  refine Wp.aload_n 0 0 d_Board_finish_54 rfl rfl ?_
  refine Wq.getI 0 rfl d_Board_finish_55 fl_Board_34 (isB_lay ha) (Or.inl rfl) ?_
  obtain ⟨H2, H3⟩ := H0
  refine Wp.icmp_ge 103 d_Board_finish_58 (by decide) (fun c1 => ?_) (fun c1 => ?_)
  · have H4 := H2 c1
    refine Wp.iload 4 4 d_Board_finish_103 rfl ?_
    refine Wp.istore_n 2 [(0, .inr (.inr a)), (1, .inl x1), (2, .inl x4), (3, .inl x3), (4, .inl x4), (5, .inl x5)] d_Board_finish_105 rfl (by decide) rfl ?_
    obtain ⟨s6, H7⟩ := H4
    refine Wp.iinc 3 3 [(0, .inr (.inr a)), (1, .inl x1), (2, .inl x4), (3, .inl (x3 + 1)), (4, .inl x4), (5, .inl x5)] d_Board_finish_106 rfl s6 (by decide) rfl ?_
    refine Wp.goto 41 d_Board_finish_109 (by decide) ?_
    refine Wp.pick [0, 1, 2, 3] [(0, .inr (.inr a)), (1, .inl x1), (2, .inl x4), (3, .inl (x3 + 1))] rfl ?_
    exact H7
  · have H5 := H3 c1
    refine Wp.iload_n 2 2 d_Board_finish_61 rfl rfl ?_
    refine Wp.iload 5 5 d_Board_finish_62 rfl ?_
    refine Wp.ishr d_Board_finish_64 ?_
    refine Wp.iconst d_Board_finish_65 (by decide) ?_
    refine Wp.iand d_Board_finish_66 ?_
    obtain ⟨H9, H10⟩ := H5
    refine Wp.if_ne 97 d_Board_finish_67 (by decide) (fun c8 => ?_) (fun c8 => ?_)
    · have H11 := H9 c8
      obtain ⟨s13, H14⟩ := H11
      refine Wp.iinc 5 5 [(0, .inr (.inr a)), (1, .inl x1), (2, .inl x2), (3, .inl x3), (4, .inl x4), (5, .inl (x5 + 1))] d_Board_finish_97 rfl s13 (by decide) rfl ?_
      refine Wp.goto 52 d_Board_finish_100 (by decide) ?_
      exact H14
    · have H12 := H10 c8
      refine Wp.aload_n 0 0 d_Board_finish_70 rfl rfl ?_
      refine Wp.iload 5 5 d_Board_finish_71 rfl ?_
      refine Wp.iload_n 2 2 d_Board_finish_73 rfl rfl ?_
      obtain ⟨e15, P16, hd17, ho18, H19⟩ := H12
      refine Wq.VI (st := []) [.inl x5, .inl x2] d_Board_finish_74 k_Board_widthToBurnt ml_Board_70 rfl (isB_lay ha) rfl (fun h => by cases h) (Nat.le_of_ble_eq_true rfl) hd17 ho18 (fun z21 m22 hp23 hz24 hw25 => ?_)
      have H20 := H19 z21 m22 hp23 hz24 hw25
      obtain ⟨H27, H28⟩ := H20
      refine Wp.if_le 97 d_Board_finish_77 (by decide) (fun c26 => ?_) (fun c26 => ?_)
      · have H29 := H27 c26
        obtain ⟨s31, H32⟩ := H29
        refine Wp.iinc 5 5 [(0, .inr (.inr a)), (1, .inl x1), (2, .inl x2), (3, .inl x3), (4, .inl x4), (5, .inl (x5 + 1))] d_Board_finish_97 rfl s31 (by decide) rfl ?_
        refine Wp.goto 52 d_Board_finish_100 (by decide) ?_
        exact H32
      · have H30 := H28 c26
        refine Wp.aload_n 0 0 d_Board_finish_80 rfl rfl ?_
        refine Wp.getP (a + 5) d_Board_finish_81 fl_Board_24 (isB_lay ha) rfl (isB_p9 ha) ?_
        refine Wp.iload 5 5 d_Board_finish_84 rfl ?_
        refine Wp.iload_n 3 3 d_Board_finish_86 rfl rfl ?_
        obtain ⟨s40, H41⟩ := H30
        refine Wq.iast d_Board_finish_87 (isB_l9 ha) s40.1 s40.2 (fun m33 hm34 => ?_)
        have H35 := H41 m33 hm34
        refine Wp.iload 4 4 d_Board_finish_88 rfl ?_
        refine Wp.iconst d_Board_finish_90 (by decide) ?_
        refine Wp.iload 5 5 d_Board_finish_91 rfl ?_
        refine Wp.ishl d_Board_finish_93 ?_
        refine Wp.ior d_Board_finish_94 ?_
        refine Wp.istore 4 [(0, .inr (.inr a)), (1, .inl x1), (2, .inl x2), (3, .inl x3), (4, .inl (bOr x4 (bShl 1 x5))), (5, .inl x5)] d_Board_finish_95 (by decide) rfl ?_
        obtain ⟨s38, H39⟩ := H35
        refine Wp.iinc 5 5 [(0, .inr (.inr a)), (1, .inl x1), (2, .inl x2), (3, .inl x3), (4, .inl (bOr x4 (bShl 1 x5))), (5, .inl (x5 + 1))] d_Board_finish_97 rfl s38 (by decide) rfl ?_
        refine Wp.goto 52 d_Board_finish_100 (by decide) ?_
        exact H39
theorem d_Board_widthToBurnt_0 : decode Y_Board_widthToBurnt.2.1 0 = .ok (.aload_n 0, 1) := by decide +kernel
theorem d_Board_widthToBurnt_1 : decode Y_Board_widthToBurnt.2.1 1 = .ok (.iload_n 1, 1) := by decide +kernel
theorem d_Board_widthToBurnt_2 : decode Y_Board_widthToBurnt.2.1 2 = .ok (.invokevirtual 59, 3) := by decide +kernel
theorem d_Board_widthToBurnt_5 : decode Y_Board_widthToBurnt.2.1 5 = .ok (.ifCond .eq 19, 3) := by decide +kernel
theorem d_Board_widthToBurnt_8 : decode Y_Board_widthToBurnt.2.1 8 = .ok (.aload_n 0, 1) := by decide +kernel
theorem d_Board_widthToBurnt_9 : decode Y_Board_widthToBurnt.2.1 9 = .ok (.getfield 18, 3) := by decide +kernel
theorem d_Board_widthToBurnt_12 : decode Y_Board_widthToBurnt.2.1 12 = .ok (.iload_n 1, 1) := by decide +kernel
theorem d_Board_widthToBurnt_13 : decode Y_Board_widthToBurnt.2.1 13 = .ok (.iaload, 1) := by decide +kernel
theorem d_Board_widthToBurnt_14 : decode Y_Board_widthToBurnt.2.1 14 = .ok (.aload_n 0, 1) := by decide +kernel
theorem d_Board_widthToBurnt_15 : decode Y_Board_widthToBurnt.2.1 15 = .ok (.iload_n 1, 1) := by decide +kernel
theorem d_Board_widthToBurnt_16 : decode Y_Board_widthToBurnt.2.1 16 = .ok (.iload_n 2, 1) := by decide +kernel
theorem d_Board_widthToBurnt_17 : decode Y_Board_widthToBurnt.2.1 17 = .ok (.invokevirtual 67, 3) := by decide +kernel
theorem d_Board_widthToBurnt_20 : decode Y_Board_widthToBurnt.2.1 20 = .ok (.iadd, 1) := by decide +kernel
theorem d_Board_widthToBurnt_21 : decode Y_Board_widthToBurnt.2.1 21 = .ok (.goto 4, 3) := by decide +kernel
theorem d_Board_widthToBurnt_24 : decode Y_Board_widthToBurnt.2.1 24 = .ok (.iconst 0, 1) := by decide +kernel
theorem d_Board_widthToBurnt_25 : decode Y_Board_widthToBurnt.2.1 25 = .ok (.ireturn, 1) := by decide +kernel
theorem e_Board_widthToBurnt {l : Launch} {G : GT} {d : Nat} {P : Int → MM → Prop} {m : MM} (x1 : Int) (x2 : Int) (a : Nat) (ha : isB a) (H : wfM m → inR x1 → inR x2 → ∃ (e1 : Nat) (P2 : Int → MM → Prop), e1 < d ∧ CI l G Y_Board_has e1 [.inr (.inr a), .inl x1] m P2 ∧ (∀ z7 m8, P2 z7 m8 → inR z7 → wfM m8 → ((z7 = 0 → (P 0 m8)) ∧ (¬ (z7 = 0) → ((0 ≤ x1 ∧ x1 < (5 : Int)) ∧ (∃ (e19 : Nat) (P20 : Int → MM → Prop), e19 < d ∧ CI l G Y_Board_widthTo e19 [.inr (.inr a), .inl x1, .inl x2] m8 P20 ∧ (∀ z25 m26, P20 z25 m26 → inR z25 → wfM m26 → ((inR ((m8 (a + 3) x1) + z25)) ∧ (P ((m8 (a + 3) x1) + z25) m26))))))))) : CI l G Y_Board_widthToBurnt d [.inr (.inr a), .inl x1, .inl x2] m P := by
  refine CI.of [(0, .inr (.inr a)), (1, .inl x1), (2, .inl x2)] k_Board_widthToBurnt.1 (Nat.le_of_ble_eq_true rfl) rfl (Wp.wf (fun hw _ hl hs => ?_))
  have H0 := H hw (hl _ (List.mem_of_getElem? (i := 1) rfl)) (hl _ (List.mem_of_getElem? (i := 2) rfl))
  refine Wp.aload_n 0 0 d_Board_widthToBurnt_0 rfl rfl ?_
  refine Wp.iload_n 1 1 d_Board_widthToBurnt_1 rfl rfl ?_
  obtain ⟨e1, P2, hd3, ho4, H5⟩ := H0
  refine Wq.VI (st := []) [.inl x1] d_Board_widthToBurnt_2 k_Board_has ml_Board_59 rfl (isB_lay ha) rfl (fun h => by cases h) (Nat.le_of_ble_eq_true rfl) hd3 ho4 (fun z7 m8 hp9 hz10 hw11 => ?_)
  have H6 := H5 z7 m8 hp9 hz10 hw11
  obtain ⟨H13, H14⟩ := H6
  refine Wp.if_eq 24 d_Board_widthToBurnt_5 (by decide) (fun c12 => ?_) (fun c12 => ?_)
  · have H15 := H13 c12
    refine Wp.iconst d_Board_widthToBurnt_24 (by decide) ?_
    exact Wq.iret d_Board_widthToBurnt_25 rfl H15
  · have H16 := H14 c12
    refine Wp.aload_n 0 0 d_Board_widthToBurnt_8 rfl rfl ?_
    refine Wp.getP (a + 3) d_Board_widthToBurnt_9 fl_Board_18 (isB_lay ha) rfl (isB_p7 ha) ?_
    refine Wp.iload_n 1 1 d_Board_widthToBurnt_12 rfl rfl ?_
    obtain ⟨s17, H18⟩ := H16
    refine Wp.iald d_Board_widthToBurnt_13 (isB_l7 ha) (Or.inl rfl) s17.1 s17.2 ?_
    refine Wp.aload_n 0 0 d_Board_widthToBurnt_14 rfl rfl ?_
    refine Wp.iload_n 1 1 d_Board_widthToBurnt_15 rfl rfl ?_
    refine Wp.iload_n 2 2 d_Board_widthToBurnt_16 rfl rfl ?_
    obtain ⟨e19, P20, hd21, ho22, H23⟩ := H18
    refine Wq.VI (st := [.inl (m8 (a + 3) x1)]) [.inl x1, .inl x2] d_Board_widthToBurnt_17 k_Board_widthTo ml_Board_67 rfl (isB_lay ha) rfl (fun h => by cases h) (Nat.le_of_ble_eq_true rfl) hd21 ho22 (fun z25 m26 hp27 hz28 hw29 => ?_)
    have H24 := H23 z25 m26 hp27 hz28 hw29
    obtain ⟨s30, H31⟩ := H24
    refine Wp.iadd d_Board_widthToBurnt_20 s30 ?_
    refine Wp.goto 25 d_Board_widthToBurnt_21 (by decide) ?_
    exact Wq.iret d_Board_widthToBurnt_25 rfl H31
theorem d_Board_widthTo_0 : decode Y_Board_widthTo.2.1 0 = .ok (.iconst 0, 1) := by decide +kernel
theorem d_Board_widthTo_1 : decode Y_Board_widthTo.2.1 1 = .ok (.istore_n 3, 1) := by decide +kernel
theorem d_Board_widthTo_2 : decode Y_Board_widthTo.2.1 2 = .ok (.iconst 0, 1) := by decide +kernel
theorem d_Board_widthTo_3 : decode Y_Board_widthTo.2.1 3 = .ok (.istore 4, 2) := by decide +kernel
theorem d_Board_widthTo_5 : decode Y_Board_widthTo.2.1 5 = .ok (.iload 4, 2) := by decide +kernel
theorem d_Board_widthTo_7 : decode Y_Board_widthTo.2.1 7 = .ok (.aload_n 0, 1) := by decide +kernel
theorem d_Board_widthTo_8 : decode Y_Board_widthTo.2.1 8 = .ok (.getfield 34, 3) := by decide +kernel
theorem d_Board_widthTo_11 : decode Y_Board_widthTo.2.1 11 = .ok (.if_icmp .ge 40, 3) := by decide +kernel
theorem d_Board_widthTo_14 : decode Y_Board_widthTo.2.1 14 = .ok (.aload_n 0, 1) := by decide +kernel
theorem d_Board_widthTo_15 : decode Y_Board_widthTo.2.1 15 = .ok (.iload_n 1, 1) := by decide +kernel
theorem d_Board_widthTo_16 : decode Y_Board_widthTo.2.1 16 = .ok (.invokevirtual 59, 3) := by decide +kernel
theorem d_Board_widthTo_19 : decode Y_Board_widthTo.2.1 19 = .ok (.ifCond .eq 32, 3) := by decide +kernel
theorem d_Board_widthTo_22 : decode Y_Board_widthTo.2.1 22 = .ok (.iload_n 2, 1) := by decide +kernel
theorem d_Board_widthTo_23 : decode Y_Board_widthTo.2.1 23 = .ok (.iload 4, 2) := by decide +kernel
theorem d_Board_widthTo_25 : decode Y_Board_widthTo.2.1 25 = .ok (.ishr, 1) := by decide +kernel
theorem d_Board_widthTo_26 : decode Y_Board_widthTo.2.1 26 = .ok (.iconst 1, 1) := by decide +kernel
theorem d_Board_widthTo_27 : decode Y_Board_widthTo.2.1 27 = .ok (.iand, 1) := by decide +kernel
theorem d_Board_widthTo_28 : decode Y_Board_widthTo.2.1 28 = .ok (.ifCond .eq 17, 3) := by decide +kernel
theorem d_Board_widthTo_31 : decode Y_Board_widthTo.2.1 31 = .ok (.iload_n 3, 1) := by decide +kernel
theorem d_Board_widthTo_32 : decode Y_Board_widthTo.2.1 32 = .ok (.aload_n 0, 1) := by decide +kernel
theorem d_Board_widthTo_33 : decode Y_Board_widthTo.2.1 33 = .ok (.getfield 15, 3) := by decide +kernel
theorem d_Board_widthTo_36 : decode Y_Board_widthTo.2.1 36 = .ok (.iload_n 1, 1) := by decide +kernel
theorem d_Board_widthTo_37 : decode Y_Board_widthTo.2.1 37 = .ok (.iconst 5, 1) := by decide +kernel
theorem d_Board_widthTo_38 : decode Y_Board_widthTo.2.1 38 = .ok (.imul, 1) := by decide +kernel
theorem d_Board_widthTo_39 : decode Y_Board_widthTo.2.1 39 = .ok (.iload 4, 2) := by decide +kernel
theorem d_Board_widthTo_41 : decode Y_Board_widthTo.2.1 41 = .ok (.iadd, 1) := by decide +kernel
theorem d_Board_widthTo_42 : decode Y_Board_widthTo.2.1 42 = .ok (.iaload, 1) := by decide +kernel
theorem d_Board_widthTo_43 : decode Y_Board_widthTo.2.1 43 = .ok (.iadd, 1) := by decide +kernel
theorem d_Board_widthTo_44 : decode Y_Board_widthTo.2.1 44 = .ok (.istore_n 3, 1) := by decide +kernel
theorem d_Board_widthTo_45 : decode Y_Board_widthTo.2.1 45 = .ok (.iinc 4 1, 3) := by decide +kernel
theorem d_Board_widthTo_48 : decode Y_Board_widthTo.2.1 48 = .ok (.goto (-43), 3) := by decide +kernel
theorem d_Board_widthTo_51 : decode Y_Board_widthTo.2.1 51 = .ok (.iload_n 3, 1) := by decide +kernel
theorem d_Board_widthTo_52 : decode Y_Board_widthTo.2.1 52 = .ok (.ireturn, 1) := by decide +kernel
theorem e_Board_widthTo {l : Launch} {G : GT} {d : Nat} {P : Int → MM → Prop} {m : MM} (x1 : Int) (x2 : Int) (a : Nat) (ha : isB a) (H : wfM m → inR x1 → inR x2 → Wq l G false Y_Board_widthTo d (QI P) 5 [(0, .inr (.inr a)), (1, .inl x1), (2, .inl x2), (3, .inl 0), (4, .inl 0)] [] m) : CI l G Y_Board_widthTo d [.inr (.inr a), .inl x1, .inl x2] m P := by
  refine CI.of [(0, .inr (.inr a)), (1, .inl x1), (2, .inl x2)] k_Board_widthTo.1 (Nat.le_of_ble_eq_true rfl) rfl (Wp.wf (fun hw _ hl hs => ?_))
  have H0 := H hw (hl _ (List.mem_of_getElem? (i := 1) rfl)) (hl _ (List.mem_of_getElem? (i := 2) rfl))
  refine Wp.iconst d_Board_widthTo_0 (by decide) ?_
  refine Wp.istore_n 3 [(0, .inr (.inr a)), (1, .inl x1), (2, .inl x2), (3, .inl 0)] d_Board_widthTo_1 rfl (by decide) rfl ?_
  refine Wp.iconst d_Board_widthTo_2 (by decide) ?_
  refine Wp.istore 4 [(0, .inr (.inr a)), (1, .inl x1), (2, .inl x2), (3, .inl 0), (4, .inl 0)] d_Board_widthTo_3 (by decide) rfl ?_
  exact H0
theorem s_Board_widthTo_5 {l : Launch} {G : GT} {d : Nat} {P : Int → MM → Prop} {m : MM} (x1 : Int) (x2 : Int) (x3 : Int) (x4 : Int) (a : Nat) (ha : isB a) (H : wfM m → inR x1 → inR x2 → inR x3 → inR x4 → (x4 ≥ (m a 0) → (P x3 m)) ∧ (¬ (x4 ≥ (m a 0)) → (∃ (e6 : Nat) (P7 : Int → MM → Prop), e6 < d ∧ CI l G Y_Board_has e6 [.inr (.inr a), .inl x1] m P7 ∧ (∀ z12 m13, P7 z12 m13 → inR z12 → wfM m13 → ((z12 = 0 → (P x3 m13)) ∧ (¬ (z12 = 0) → (((bAnd (bShr x2 x4) 1) = 0 → ((inR (x4 + 1)) ∧ (Wq l G false Y_Board_widthTo d (QI P) 5 [(0, .inr (.inr a)), (1, .inl x1), (2, .inl x2), (3, .inl x3), (4, .inl (x4 + 1))] [] m13))) ∧ (¬ ((bAnd (bShr x2 x4) 1) = 0) → ((inR (x1 * 5)) ∧ ((inR ((x1 * 5) + x4)) ∧ ((0 ≤ ((x1 * 5) + x4) ∧ ((x1 * 5) + x4) < (25 : Int)) ∧ ((inR (x3 + (m13 (a + 2) ((x1 * 5) + x4)))) ∧ ((inR (x4 + 1)) ∧ (Wq l G false Y_Board_widthTo d (QI P) 5 [(0, .inr (.inr a)), (1, .inl x1), (2, .inl x2), (3, .inl (x3 + (m13 (a + 2) ((x1 * 5) + x4)))), (4, .inl (x4 + 1))] [] m13)))))))))))))) : Wq l G false Y_Board_widthTo d (QI P) 5 [(0, .inr (.inr a)), (1, .inl x1), (2, .inl x2), (3, .inl x3), (4, .inl x4)] [] m := by
  refine Wp.wf (fun hw _ hl hs => ?_)
  have H0 := H hw (hl _ (List.mem_of_getElem? (i := 1) rfl)) (hl _ (List.mem_of_getElem? (i := 2) rfl)) (hl _ (List.mem_of_getElem? (i := 3) rfl)) (hl _ (List.mem_of_getElem? (i := 4) rfl))
  refine Wp.iload 4 4 d_Board_widthTo_5 rfl ?_
  refine Wp.aload_n 0 0 d_Board_widthTo_7 rfl rfl ?_
  refine Wq.getI 0 rfl d_Board_widthTo_8 fl_Board_34 (isB_lay ha) (Or.inl rfl) ?_
  obtain ⟨H2, H3⟩ := H0
  refine Wp.icmp_ge 51 d_Board_widthTo_11 (by decide) (fun c1 => ?_) (fun c1 => ?_)
  · have H4 := H2 c1
    refine Wp.iload_n 3 3 d_Board_widthTo_51 rfl rfl ?_
    exact Wq.iret d_Board_widthTo_52 rfl H4
  · have H5 := H3 c1
    refine Wp.aload_n 0 0 d_Board_widthTo_14 rfl rfl ?_
    refine Wp.iload_n 1 1 d_Board_widthTo_15 rfl rfl ?_
    obtain ⟨e6, P7, hd8, ho9, H10⟩ := H5
    refine Wq.VI (st := []) [.inl x1] d_Board_widthTo_16 k_Board_has ml_Board_59 rfl (isB_lay ha) rfl (fun h => by cases h) (Nat.le_of_ble_eq_true rfl) hd8 ho9 (fun z12 m13 hp14 hz15 hw16 => ?_)
    have H11 := H10 z12 m13 hp14 hz15 hw16
    obtain ⟨H18, H19⟩ := H11
    refine Wp.if_eq 51 d_Board_widthTo_19 (by decide) (fun c17 => ?_) (fun c17 => ?_)
    · have H20 := H18 c17
      refine Wp.iload_n 3 3 d_Board_widthTo_51 rfl rfl ?_
      exact Wq.iret d_Board_widthTo_52 rfl H20
    · have H21 := H19 c17
      refine Wp.iload_n 2 2 d_Board_widthTo_22 rfl rfl ?_
      refine Wp.iload 4 4 d_Board_widthTo_23 rfl ?_
      refine Wp.ishr d_Board_widthTo_25 ?_
      refine Wp.iconst d_Board_widthTo_26 (by decide) ?_
      refine Wp.iand d_Board_widthTo_27 ?_
      obtain ⟨H23, H24⟩ := H21
      refine Wp.if_eq 45 d_Board_widthTo_28 (by decide) (fun c22 => ?_) (fun c22 => ?_)
      · have H25 := H23 c22
        obtain ⟨s27, H28⟩ := H25
        refine Wp.iinc 4 4 [(0, .inr (.inr a)), (1, .inl x1), (2, .inl x2), (3, .inl x3), (4, .inl (x4 + 1))] d_Board_widthTo_45 rfl s27 (by decide) rfl ?_
        refine Wp.goto 5 d_Board_widthTo_48 (by decide) ?_
        exact H28
      · have H26 := H24 c22
        refine Wp.iload_n 3 3 d_Board_widthTo_31 rfl rfl ?_
        refine Wp.aload_n 0 0 d_Board_widthTo_32 rfl rfl ?_
        refine Wp.getP (a + 2) d_Board_widthTo_33 fl_Board_15 (isB_lay ha) rfl (isB_p6 ha) ?_
        refine Wp.iload_n 1 1 d_Board_widthTo_36 rfl rfl ?_
        refine Wp.iconst d_Board_widthTo_37 (by decide) ?_
        obtain ⟨s29, H30⟩ := H26
        refine Wp.imul d_Board_widthTo_38 s29 ?_
        refine Wp.iload 4 4 d_Board_widthTo_39 rfl ?_
        obtain ⟨s31, H32⟩ := H30
        refine Wp.iadd d_Board_widthTo_41 s31 ?_
        obtain ⟨s33, H34⟩ := H32
        refine Wp.iald d_Board_widthTo_42 (isB_l6 ha) (Or.inl rfl) s33.1 s33.2 ?_
        obtain ⟨s35, H36⟩ := H34
        refine Wp.iadd d_Board_widthTo_43 s35 ?_
        refine Wp.istore_n 3 [(0, .inr (.inr a)), (1, .inl x1), (2, .inl x2), (3, .inl (x3 + (m13 (a + 2) ((x1 * 5) + x4)))), (4, .inl x4)] d_Board_widthTo_44 rfl (by decide) rfl ?_
        obtain ⟨s37, H38⟩ := H36
        refine Wp.iinc 4 4 [(0, .inr (.inr a)), (1, .inl x1), (2, .inl x2), (3, .inl (x3 + (m13 (a + 2) ((x1 * 5) + x4)))), (4, .inl (x4 + 1))] d_Board_widthTo_45 rfl s37 (by decide) rfl ?_
        refine Wp.goto 5 d_Board_widthTo_48 (by decide) ?_
        exact H38
theorem d_Board_joinedTo_0 : decode Y_Board_joinedTo.2.1 0 = .ok (.iconst 0, 1) := by decide +kernel
theorem d_Board_joinedTo_1 : decode Y_Board_joinedTo.2.1 1 = .ok (.istore_n 2, 1) := by decide +kernel
theorem d_Board_joinedTo_2 : decode Y_Board_joinedTo.2.1 2 = .ok (.iconst 0, 1) := by decide +kernel
theorem d_Board_joinedTo_3 : decode Y_Board_joinedTo.2.1 3 = .ok (.istore_n 3, 1) := by decide +kernel
theorem d_Board_joinedTo_4 : decode Y_Board_joinedTo.2.1 4 = .ok (.iload_n 3, 1) := by decide +kernel
theorem d_Board_joinedTo_5 : decode Y_Board_joinedTo.2.1 5 = .ok (.aload_n 0, 1) := by decide +kernel
theorem d_Board_joinedTo_6 : decode Y_Board_joinedTo.2.1 6 = .ok (.getfield 34, 3) := by decide +kernel
theorem d_Board_joinedTo_9 : decode Y_Board_joinedTo.2.1 9 = .ok (.if_icmp .ge 24, 3) := by decide +kernel
theorem d_Board_joinedTo_12 : decode Y_Board_joinedTo.2.1 12 = .ok (.aload_n 0, 1) := by decide +kernel
theorem d_Board_joinedTo_13 : decode Y_Board_joinedTo.2.1 13 = .ok (.iload_n 1, 1) := by decide +kernel
theorem d_Board_joinedTo_14 : decode Y_Board_joinedTo.2.1 14 = .ok (.iload_n 3, 1) := by decide +kernel
theorem d_Board_joinedTo_15 : decode Y_Board_joinedTo.2.1 15 = .ok (.invokevirtual 63, 3) := by decide +kernel
theorem d_Board_joinedTo_18 : decode Y_Board_joinedTo.2.1 18 = .ok (.ifCond .le 9, 3) := by decide +kernel
theorem d_Board_joinedTo_21 : decode Y_Board_joinedTo.2.1 21 = .ok (.iload_n 2, 1) := by decide +kernel
theorem d_Board_joinedTo_22 : decode Y_Board_joinedTo.2.1 22 = .ok (.iconst 1, 1) := by decide +kernel
theorem d_Board_joinedTo_23 : decode Y_Board_joinedTo.2.1 23 = .ok (.iload_n 3, 1) := by decide +kernel
theorem d_Board_joinedTo_24 : decode Y_Board_joinedTo.2.1 24 = .ok (.ishl, 1) := by decide +kernel
theorem d_Board_joinedTo_25 : decode Y_Board_joinedTo.2.1 25 = .ok (.ior, 1) := by decide +kernel
theorem d_Board_joinedTo_26 : decode Y_Board_joinedTo.2.1 26 = .ok (.istore_n 2, 1) := by decide +kernel
theorem d_Board_joinedTo_27 : decode Y_Board_joinedTo.2.1 27 = .ok (.iinc 3 1, 3) := by decide +kernel
theorem d_Board_joinedTo_30 : decode Y_Board_joinedTo.2.1 30 = .ok (.goto (-26), 3) := by decide +kernel
theorem d_Board_joinedTo_33 : decode Y_Board_joinedTo.2.1 33 = .ok (.iload_n 2, 1) := by decide +kernel
theorem d_Board_joinedTo_34 : decode Y_Board_joinedTo.2.1 34 = .ok (.ireturn, 1) := by decide +kernel
theorem e_Board_joinedTo {l : Launch} {G : GT} {d : Nat} {P : Int → MM → Prop} {m : MM} (x1 : Int) (a : Nat) (ha : isB a) (H : wfM m → inR x1 → Wq l G false Y_Board_joinedTo d (QI P) 4 [(0, .inr (.inr a)), (1, .inl x1), (2, .inl 0), (3, .inl 0)] [] m) : CI l G Y_Board_joinedTo d [.inr (.inr a), .inl x1] m P := by
  refine CI.of [(0, .inr (.inr a)), (1, .inl x1)] k_Board_joinedTo.1 (Nat.le_of_ble_eq_true rfl) rfl (Wp.wf (fun hw _ hl hs => ?_))
  have H0 := H hw (hl _ (List.mem_of_getElem? (i := 1) rfl))
  refine Wp.iconst d_Board_joinedTo_0 (by decide) ?_
  refine Wp.istore_n 2 [(0, .inr (.inr a)), (1, .inl x1), (2, .inl 0)] d_Board_joinedTo_1 rfl (by decide) rfl ?_
  refine Wp.iconst d_Board_joinedTo_2 (by decide) ?_
  refine Wp.istore_n 3 [(0, .inr (.inr a)), (1, .inl x1), (2, .inl 0), (3, .inl 0)] d_Board_joinedTo_3 rfl (by decide) rfl ?_
  exact H0
theorem s_Board_joinedTo_4 {l : Launch} {G : GT} {d : Nat} {P : Int → MM → Prop} {m : MM} (x1 : Int) (x2 : Int) (x3 : Int) (a : Nat) (ha : isB a) (H : wfM m → inR x1 → inR x2 → inR x3 → (x3 ≥ (m a 0) → (P x2 m)) ∧ (¬ (x3 ≥ (m a 0)) → (∃ (e6 : Nat) (P7 : Int → MM → Prop), e6 < d ∧ CI l G Y_Board_width e6 [.inr (.inr a), .inl x1, .inl x3] m P7 ∧ (∀ z12 m13, P7 z12 m13 → inR z12 → wfM m13 → ((z12 ≤ 0 → ((inR (x3 + 1)) ∧ (Wq l G false Y_Board_joinedTo d (QI P) 4 [(0, .inr (.inr a)), (1, .inl x1), (2, .inl x2), (3, .inl (x3 + 1))] [] m13))) ∧ (¬ (z12 ≤ 0) → ((inR (x3 + 1)) ∧ (Wq l G false Y_Board_joinedTo d (QI P) 4 [(0, .inr (.inr a)), (1, .inl x1), (2, .inl (bOr x2 (bShl 1 x3))), (3, .inl (x3 + 1))] [] m13)))))))) : Wq l G false Y_Board_joinedTo d (QI P) 4 [(0, .inr (.inr a)), (1, .inl x1), (2, .inl x2), (3, .inl x3)] [] m := by
  refine Wp.wf (fun hw _ hl hs => ?_)
  have H0 := H hw (hl _ (List.mem_of_getElem? (i := 1) rfl)) (hl _ (List.mem_of_getElem? (i := 2) rfl)) (hl _ (List.mem_of_getElem? (i := 3) rfl))
  refine Wp.iload_n 3 3 d_Board_joinedTo_4 rfl rfl ?_
  refine Wp.aload_n 0 0 d_Board_joinedTo_5 rfl rfl ?_
  refine Wq.getI 0 rfl d_Board_joinedTo_6 fl_Board_34 (isB_lay ha) (Or.inl rfl) ?_
  obtain ⟨H2, H3⟩ := H0
  refine Wp.icmp_ge 33 d_Board_joinedTo_9 (by decide) (fun c1 => ?_) (fun c1 => ?_)
  · have H4 := H2 c1
    refine Wp.iload_n 2 2 d_Board_joinedTo_33 rfl rfl ?_
    exact Wq.iret d_Board_joinedTo_34 rfl H4
  · have H5 := H3 c1
    refine Wp.aload_n 0 0 d_Board_joinedTo_12 rfl rfl ?_
    refine Wp.iload_n 1 1 d_Board_joinedTo_13 rfl rfl ?_
    refine Wp.iload_n 3 3 d_Board_joinedTo_14 rfl rfl ?_
    obtain ⟨e6, P7, hd8, ho9, H10⟩ := H5
    refine Wq.VI (st := []) [.inl x1, .inl x3] d_Board_joinedTo_15 k_Board_width ml_Board_63 rfl (isB_lay ha) rfl (fun h => by cases h) (Nat.le_of_ble_eq_true rfl) hd8 ho9 (fun z12 m13 hp14 hz15 hw16 => ?_)
    have H11 := H10 z12 m13 hp14 hz15 hw16
    obtain ⟨H18, H19⟩ := H11
    refine Wp.if_le 27 d_Board_joinedTo_18 (by decide) (fun c17 => ?_) (fun c17 => ?_)
    · have H20 := H18 c17
      obtain ⟨s22, H23⟩ := H20
      refine Wp.iinc 3 3 [(0, .inr (.inr a)), (1, .inl x1), (2, .inl x2), (3, .inl (x3 + 1))] d_Board_joinedTo_27 rfl s22 (by decide) rfl ?_
      refine Wp.goto 4 d_Board_joinedTo_30 (by decide) ?_
      exact H23
    · have H21 := H19 c17
      refine Wp.iload_n 2 2 d_Board_joinedTo_21 rfl rfl ?_
      refine Wp.iconst d_Board_joinedTo_22 (by decide) ?_
      refine Wp.iload_n 3 3 d_Board_joinedTo_23 rfl rfl ?_
      refine Wp.ishl d_Board_joinedTo_24 ?_
      refine Wp.ior d_Board_joinedTo_25 ?_
      refine Wp.istore_n 2 [(0, .inr (.inr a)), (1, .inl x1), (2, .inl (bOr x2 (bShl 1 x3))), (3, .inl x3)] d_Board_joinedTo_26 rfl (by decide) rfl ?_
      obtain ⟨s24, H25⟩ := H21
      refine Wp.iinc 3 3 [(0, .inr (.inr a)), (1, .inl x1), (2, .inl (bOr x2 (bShl 1 x3))), (3, .inl (x3 + 1))] d_Board_joinedTo_27 rfl s24 (by decide) rfl ?_
      refine Wp.goto 4 d_Board_joinedTo_30 (by decide) ?_
      exact H25
theorem d_Board_overfull_0 : decode Y_Board_overfull.2.1 0 = .ok (.iconst 0, 1) := by decide +kernel
theorem d_Board_overfull_1 : decode Y_Board_overfull.2.1 1 = .ok (.istore_n 2, 1) := by decide +kernel
theorem d_Board_overfull_2 : decode Y_Board_overfull.2.1 2 = .ok (.iconst 0, 1) := by decide +kernel
theorem d_Board_overfull_3 : decode Y_Board_overfull.2.1 3 = .ok (.istore_n 3, 1) := by decide +kernel
theorem d_Board_overfull_4 : decode Y_Board_overfull.2.1 4 = .ok (.iload_n 3, 1) := by decide +kernel
theorem d_Board_overfull_5 : decode Y_Board_overfull.2.1 5 = .ok (.aload_n 0, 1) := by decide +kernel
theorem d_Board_overfull_6 : decode Y_Board_overfull.2.1 6 = .ok (.getfield 34, 3) := by decide +kernel
theorem d_Board_overfull_9 : decode Y_Board_overfull.2.1 9 = .ok (.if_icmp .ge 27, 3) := by decide +kernel
theorem d_Board_overfull_12 : decode Y_Board_overfull.2.1 12 = .ok (.aload_n 1, 1) := by decide +kernel
theorem d_Board_overfull_13 : decode Y_Board_overfull.2.1 13 = .ok (.iload_n 3, 1) := by decide +kernel
theorem d_Board_overfull_14 : decode Y_Board_overfull.2.1 14 = .ok (.iaload, 1) := by decide +kernel
theorem d_Board_overfull_15 : decode Y_Board_overfull.2.1 15 = .ok (.aload_n 0, 1) := by decide +kernel
theorem d_Board_overfull_16 : decode Y_Board_overfull.2.1 16 = .ok (.getfield 21, 3) := by decide +kernel
theorem d_Board_overfull_19 : decode Y_Board_overfull.2.1 19 = .ok (.iload_n 3, 1) := by decide +kernel
theorem d_Board_overfull_20 : decode Y_Board_overfull.2.1 20 = .ok (.iaload, 1) := by decide +kernel
theorem d_Board_overfull_21 : decode Y_Board_overfull.2.1 21 = .ok (.if_icmp .lt 9, 3) := by decide +kernel
theorem d_Board_overfull_24 : decode Y_Board_overfull.2.1 24 = .ok (.iload_n 2, 1) := by decide +kernel
theorem d_Board_overfull_25 : decode Y_Board_overfull.2.1 25 = .ok (.iconst 1, 1) := by decide +kernel
theorem d_Board_overfull_26 : decode Y_Board_overfull.2.1 26 = .ok (.iload_n 3, 1) := by decide +kernel
theorem d_Board_overfull_27 : decode Y_Board_overfull.2.1 27 = .ok (.ishl, 1) := by decide +kernel
theorem d_Board_overfull_28 : decode Y_Board_overfull.2.1 28 = .ok (.ior, 1) := by decide +kernel
theorem d_Board_overfull_29 : decode Y_Board_overfull.2.1 29 = .ok (.istore_n 2, 1) := by decide +kernel
theorem d_Board_overfull_30 : decode Y_Board_overfull.2.1 30 = .ok (.iinc 3 1, 3) := by decide +kernel
theorem d_Board_overfull_33 : decode Y_Board_overfull.2.1 33 = .ok (.goto (-29), 3) := by decide +kernel
theorem d_Board_overfull_36 : decode Y_Board_overfull.2.1 36 = .ok (.iload_n 2, 1) := by decide +kernel
theorem d_Board_overfull_37 : decode Y_Board_overfull.2.1 37 = .ok (.ireturn, 1) := by decide +kernel
theorem e_Board_overfull {l : Launch} {G : GT} {d : Nat} {P : Int → MM → Prop} {m : MM} (a : Nat) (h1 : Nat) (n1 : Nat) (ha : isB a) (hl1 : q_lay h1 = .inr (0, n1)) (hlt_h1 : n1 < 2147483648) (H : wfM m → Wq l G false Y_Board_overfull d (QI P) 4 [(0, .inr (.inr a)), (1, .inr (.inr h1)), (2, .inl 0), (3, .inl 0)] [] m) : CI l G Y_Board_overfull d [.inr (.inr a), .inr (.inr h1)] m P := by
  refine CI.of [(0, .inr (.inr a)), (1, .inr (.inr h1))] k_Board_overfull.1 (Nat.le_of_ble_eq_true rfl) rfl (Wp.wf (fun hw _ hl hs => ?_))
  have H0 := H hw
  refine Wp.iconst d_Board_overfull_0 (by decide) ?_
  refine Wp.istore_n 2 [(0, .inr (.inr a)), (1, .inr (.inr h1)), (2, .inl 0)] d_Board_overfull_1 rfl (by decide) rfl ?_
  refine Wp.iconst d_Board_overfull_2 (by decide) ?_
  refine Wp.istore_n 3 [(0, .inr (.inr a)), (1, .inr (.inr h1)), (2, .inl 0), (3, .inl 0)] d_Board_overfull_3 rfl (by decide) rfl ?_
  exact H0
theorem s_Board_overfull_4 {l : Launch} {G : GT} {d : Nat} {P : Int → MM → Prop} {m : MM} (x2 : Int) (x3 : Int) (a : Nat) (h1 : Nat) (n1 : Nat) (ha : isB a) (hl1 : q_lay h1 = .inr (0, n1)) (hlt_h1 : n1 < 2147483648) (H : wfM m → inR x2 → inR x3 → (x3 ≥ (m a 0) → (P x2 m)) ∧ (¬ (x3 ≥ (m a 0)) → ((0 ≤ x3 ∧ x3 < (n1 : Int)) ∧ ((0 ≤ x3 ∧ x3 < (5 : Int)) ∧ (((m h1 x3) < (m (a + 4) x3) → ((inR (x3 + 1)) ∧ (Wq l G false Y_Board_overfull d (QI P) 4 [(0, .inr (.inr a)), (1, .inr (.inr h1)), (2, .inl x2), (3, .inl (x3 + 1))] [] m))) ∧ (¬ ((m h1 x3) < (m (a + 4) x3)) → ((inR (x3 + 1)) ∧ (Wq l G false Y_Board_overfull d (QI P) 4 [(0, .inr (.inr a)), (1, .inr (.inr h1)), (2, .inl (bOr x2 (bShl 1 x3))), (3, .inl (x3 + 1))] [] m)))))))) : Wq l G false Y_Board_overfull d (QI P) 4 [(0, .inr (.inr a)), (1, .inr (.inr h1)), (2, .inl x2), (3, .inl x3)] [] m := by
  refine Wp.wf (fun hw _ hl hs => ?_)
  have H0 := H hw (hl _ (List.mem_of_getElem? (i := 2) rfl)) (hl _ (List.mem_of_getElem? (i := 3) rfl))
  refine Wp.iload_n 3 3 d_Board_overfull_4 rfl rfl ?_
  refine Wp.aload_n 0 0 d_Board_overfull_5 rfl rfl ?_
  refine Wq.getI 0 rfl d_Board_overfull_6 fl_Board_34 (isB_lay ha) (Or.inl rfl) ?_
  obtain ⟨H2, H3⟩ := H0
  refine Wp.icmp_ge 36 d_Board_overfull_9 (by decide) (fun c1 => ?_) (fun c1 => ?_)
  · have H4 := H2 c1
    refine Wp.iload_n 2 2 d_Board_overfull_36 rfl rfl ?_
    exact Wq.iret d_Board_overfull_37 rfl H4
  · have H5 := H3 c1
    refine Wp.aload_n 1 1 d_Board_overfull_12 rfl rfl ?_
    refine Wp.iload_n 3 3 d_Board_overfull_13 rfl rfl ?_
    obtain ⟨s6, H7⟩ := H5
    refine Wp.iald d_Board_overfull_14 hl1 (Or.inl rfl) s6.1 s6.2 ?_
    refine Wp.aload_n 0 0 d_Board_overfull_15 rfl rfl ?_
    refine Wp.getP (a + 4) d_Board_overfull_16 fl_Board_21 (isB_lay ha) rfl (isB_p8 ha) ?_
    refine Wp.iload_n 3 3 d_Board_overfull_19 rfl rfl ?_
    obtain ⟨s8, H9⟩ := H7
    refine Wp.iald d_Board_overfull_20 (isB_l8 ha) (Or.inl rfl) s8.1 s8.2 ?_
    obtain ⟨H11, H12⟩ := H9
    refine Wp.icmp_lt 30 d_Board_overfull_21 (by decide) (fun c10 => ?_) (fun c10 => ?_)
    · have H13 := H11 c10
      obtain ⟨s15, H16⟩ := H13
      refine Wp.iinc 3 3 [(0, .inr (.inr a)), (1, .inr (.inr h1)), (2, .inl x2), (3, .inl (x3 + 1))] d_Board_overfull_30 rfl s15 (by decide) rfl ?_
      refine Wp.goto 4 d_Board_overfull_33 (by decide) ?_
      exact H16
    · have H14 := H12 c10
      refine Wp.iload_n 2 2 d_Board_overfull_24 rfl rfl ?_
      refine Wp.iconst d_Board_overfull_25 (by decide) ?_
      refine Wp.iload_n 3 3 d_Board_overfull_26 rfl rfl ?_
      refine Wp.ishl d_Board_overfull_27 ?_
      refine Wp.ior d_Board_overfull_28 ?_
      refine Wp.istore_n 2 [(0, .inr (.inr a)), (1, .inr (.inr h1)), (2, .inl (bOr x2 (bShl 1 x3))), (3, .inl x3)] d_Board_overfull_29 rfl (by decide) rfl ?_
      obtain ⟨s17, H18⟩ := H14
      refine Wp.iinc 3 3 [(0, .inr (.inr a)), (1, .inr (.inr h1)), (2, .inl (bOr x2 (bShl 1 x3))), (3, .inl (x3 + 1))] d_Board_overfull_30 rfl s17 (by decide) rfl ?_
      refine Wp.goto 4 d_Board_overfull_33 (by decide) ?_
      exact H18
theorem d_Board_betweenPlates_0 : decode Y_Board_betweenPlates.2.1 0 = .ok (.aload_n 0, 1) := by decide +kernel
theorem d_Board_betweenPlates_1 : decode Y_Board_betweenPlates.2.1 1 = .ok (.invokevirtual 77, 3) := by decide +kernel
theorem d_Board_betweenPlates_4 : decode Y_Board_betweenPlates.2.1 4 = .ok (.aload_n 0, 1) := by decide +kernel
theorem d_Board_betweenPlates_5 : decode Y_Board_betweenPlates.2.1 5 = .ok (.aload_n 0, 1) := by decide +kernel
theorem d_Board_betweenPlates_6 : decode Y_Board_betweenPlates.2.1 6 = .ok (.getfield 18, 3) := by decide +kernel
theorem d_Board_betweenPlates_9 : decode Y_Board_betweenPlates.2.1 9 = .ok (.invokevirtual 73, 3) := by decide +kernel
theorem d_Board_betweenPlates_12 : decode Y_Board_betweenPlates.2.1 12 = .ok (.isub, 1) := by decide +kernel
theorem d_Board_betweenPlates_13 : decode Y_Board_betweenPlates.2.1 13 = .ok (.iconst 2, 1) := by decide +kernel
theorem d_Board_betweenPlates_14 : decode Y_Board_betweenPlates.2.1 14 = .ok (.idiv, 1) := by decide +kernel
theorem d_Board_betweenPlates_15 : decode Y_Board_betweenPlates.2.1 15 = .ok (.ireturn, 1) := by decide +kernel
theorem e_Board_betweenPlates {l : Launch} {G : GT} {d : Nat} {P : Int → MM → Prop} {m : MM} (a : Nat) (ha : isB a) (H : wfM m → ∃ (e1 : Nat) (P2 : Int → MM → Prop), e1 < d ∧ CI l G Y_Board_allBrims e1 [.inr (.inr a)] m P2 ∧ (∀ z7 m8, P2 z7 m8 → inR z7 → wfM m8 → (∃ (e12 : Nat) (P13 : Int → MM → Prop), e12 < d ∧ CI l G Y_Board_grainsOf e12 [.inr (.inr a), .inr (.inr (a + 3))] m8 P13 ∧ (∀ z18 m19, P13 z18 m19 → inR z18 → wfM m19 → ((inR (z7 - z18)) ∧ (P (Int.tdiv (z7 - z18) 2) m19)))))) : CI l G Y_Board_betweenPlates d [.inr (.inr a)] m P := by
  refine CI.of [(0, .inr (.inr a))] k_Board_betweenPlates.1 (Nat.le_of_ble_eq_true rfl) rfl (Wp.wf (fun hw _ hl hs => ?_))
  have H0 := H hw
  refine Wp.aload_n 0 0 d_Board_betweenPlates_0 rfl rfl ?_
  obtain ⟨e1, P2, hd3, ho4, H5⟩ := H0
  refine Wq.VI (st := []) [] d_Board_betweenPlates_1 k_Board_allBrims ml_Board_77 rfl (isB_lay ha) rfl (fun h => by cases h) (Nat.le_of_ble_eq_true rfl) hd3 ho4 (fun z7 m8 hp9 hz10 hw11 => ?_)
  have H6 := H5 z7 m8 hp9 hz10 hw11
  refine Wp.aload_n 0 0 d_Board_betweenPlates_4 rfl rfl ?_
  refine Wp.aload_n 0 0 d_Board_betweenPlates_5 rfl rfl ?_
  refine Wp.getP (a + 3) d_Board_betweenPlates_6 fl_Board_18 (isB_lay ha) rfl (isB_p7 ha) ?_
  obtain ⟨e12, P13, hd14, ho15, H16⟩ := H6
  refine Wq.VI (st := [.inl z7]) [.inr (.inr (a + 3))] d_Board_betweenPlates_9 k_Board_grainsOf ml_Board_73 rfl (isB_lay ha) rfl (fun h => by cases h) (Nat.le_of_ble_eq_true rfl) hd14 ho15 (fun z18 m19 hp20 hz21 hw22 => ?_)
  have H17 := H16 z18 m19 hp20 hz21 hw22
  obtain ⟨s23, H24⟩ := H17
  refine Wp.isub d_Board_betweenPlates_12 s23 ?_
  refine Wp.iconst d_Board_betweenPlates_13 (by decide) ?_
  refine Wq.idiv d_Board_betweenPlates_14 (by decide) ?_
  exact Wq.iret d_Board_betweenPlates_15 rfl H24
theorem d_Board_allBrims_0 : decode Y_Board_allBrims.2.1 0 = .ok (.aload_n 0, 1) := by decide +kernel
theorem d_Board_allBrims_1 : decode Y_Board_allBrims.2.1 1 = .ok (.aload_n 0, 1) := by decide +kernel
theorem d_Board_allBrims_2 : decode Y_Board_allBrims.2.1 2 = .ok (.getfield 21, 3) := by decide +kernel
theorem d_Board_allBrims_5 : decode Y_Board_allBrims.2.1 5 = .ok (.invokevirtual 73, 3) := by decide +kernel
theorem d_Board_allBrims_8 : decode Y_Board_allBrims.2.1 8 = .ok (.ireturn, 1) := by decide +kernel
theorem e_Board_allBrims {l : Launch} {G : GT} {d : Nat} {P : Int → MM → Prop} {m : MM} (a : Nat) (ha : isB a) (H : wfM m → ∃ (e1 : Nat) (P2 : Int → MM → Prop), e1 < d ∧ CI l G Y_Board_grainsOf e1 [.inr (.inr a), .inr (.inr (a + 4))] m P2 ∧ (∀ z7 m8, P2 z7 m8 → inR z7 → wfM m8 → (P z7 m8))) : CI l G Y_Board_allBrims d [.inr (.inr a)] m P := by
  refine CI.of [(0, .inr (.inr a))] k_Board_allBrims.1 (Nat.le_of_ble_eq_true rfl) rfl (Wp.wf (fun hw _ hl hs => ?_))
  have H0 := H hw
  refine Wp.aload_n 0 0 d_Board_allBrims_0 rfl rfl ?_
  refine Wp.aload_n 0 0 d_Board_allBrims_1 rfl rfl ?_
  refine Wp.getP (a + 4) d_Board_allBrims_2 fl_Board_21 (isB_lay ha) rfl (isB_p8 ha) ?_
  obtain ⟨e1, P2, hd3, ho4, H5⟩ := H0
  refine Wq.VI (st := []) [.inr (.inr (a + 4))] d_Board_allBrims_5 k_Board_grainsOf ml_Board_73 rfl (isB_lay ha) rfl (fun h => by cases h) (Nat.le_of_ble_eq_true rfl) hd3 ho4 (fun z7 m8 hp9 hz10 hw11 => ?_)
  have H6 := H5 z7 m8 hp9 hz10 hw11
  exact Wq.iret d_Board_allBrims_8 rfl H6
theorem d_Board_grainsOf_0 : decode Y_Board_grainsOf.2.1 0 = .ok (.iconst 0, 1) := by decide +kernel
theorem d_Board_grainsOf_1 : decode Y_Board_grainsOf.2.1 1 = .ok (.istore_n 2, 1) := by decide +kernel
theorem d_Board_grainsOf_2 : decode Y_Board_grainsOf.2.1 2 = .ok (.iconst 0, 1) := by decide +kernel
theorem d_Board_grainsOf_3 : decode Y_Board_grainsOf.2.1 3 = .ok (.istore_n 3, 1) := by decide +kernel
theorem d_Board_grainsOf_4 : decode Y_Board_grainsOf.2.1 4 = .ok (.iload_n 3, 1) := by decide +kernel
theorem d_Board_grainsOf_5 : decode Y_Board_grainsOf.2.1 5 = .ok (.aload_n 0, 1) := by decide +kernel
theorem d_Board_grainsOf_6 : decode Y_Board_grainsOf.2.1 6 = .ok (.getfield 34, 3) := by decide +kernel
theorem d_Board_grainsOf_9 : decode Y_Board_grainsOf.2.1 9 = .ok (.if_icmp .ge 15, 3) := by decide +kernel
theorem d_Board_grainsOf_12 : decode Y_Board_grainsOf.2.1 12 = .ok (.iload_n 2, 1) := by decide +kernel
theorem d_Board_grainsOf_13 : decode Y_Board_grainsOf.2.1 13 = .ok (.aload_n 1, 1) := by decide +kernel
theorem d_Board_grainsOf_14 : decode Y_Board_grainsOf.2.1 14 = .ok (.iload_n 3, 1) := by decide +kernel
theorem d_Board_grainsOf_15 : decode Y_Board_grainsOf.2.1 15 = .ok (.iaload, 1) := by decide +kernel
theorem d_Board_grainsOf_16 : decode Y_Board_grainsOf.2.1 16 = .ok (.iadd, 1) := by decide +kernel
theorem d_Board_grainsOf_17 : decode Y_Board_grainsOf.2.1 17 = .ok (.istore_n 2, 1) := by decide +kernel
theorem d_Board_grainsOf_18 : decode Y_Board_grainsOf.2.1 18 = .ok (.iinc 3 1, 3) := by decide +kernel
theorem d_Board_grainsOf_21 : decode Y_Board_grainsOf.2.1 21 = .ok (.goto (-17), 3) := by decide +kernel
theorem d_Board_grainsOf_24 : decode Y_Board_grainsOf.2.1 24 = .ok (.iload_n 2, 1) := by decide +kernel
theorem d_Board_grainsOf_25 : decode Y_Board_grainsOf.2.1 25 = .ok (.ireturn, 1) := by decide +kernel
theorem e_Board_grainsOf {l : Launch} {G : GT} {d : Nat} {P : Int → MM → Prop} {m : MM} (a : Nat) (h1 : Nat) (n1 : Nat) (ha : isB a) (hl1 : q_lay h1 = .inr (0, n1)) (hlt_h1 : n1 < 2147483648) (H : wfM m → Wq l G false Y_Board_grainsOf d (QI P) 4 [(0, .inr (.inr a)), (1, .inr (.inr h1)), (2, .inl 0), (3, .inl 0)] [] m) : CI l G Y_Board_grainsOf d [.inr (.inr a), .inr (.inr h1)] m P := by
  refine CI.of [(0, .inr (.inr a)), (1, .inr (.inr h1))] k_Board_grainsOf.1 (Nat.le_of_ble_eq_true rfl) rfl (Wp.wf (fun hw _ hl hs => ?_))
  have H0 := H hw
  refine Wp.iconst d_Board_grainsOf_0 (by decide) ?_
  refine Wp.istore_n 2 [(0, .inr (.inr a)), (1, .inr (.inr h1)), (2, .inl 0)] d_Board_grainsOf_1 rfl (by decide) rfl ?_
  refine Wp.iconst d_Board_grainsOf_2 (by decide) ?_
  refine Wp.istore_n 3 [(0, .inr (.inr a)), (1, .inr (.inr h1)), (2, .inl 0), (3, .inl 0)] d_Board_grainsOf_3 rfl (by decide) rfl ?_
  exact H0
theorem s_Board_grainsOf_4 {l : Launch} {G : GT} {d : Nat} {P : Int → MM → Prop} {m : MM} (x2 : Int) (x3 : Int) (a : Nat) (h1 : Nat) (n1 : Nat) (ha : isB a) (hl1 : q_lay h1 = .inr (0, n1)) (hlt_h1 : n1 < 2147483648) (H : wfM m → inR x2 → inR x3 → (x3 ≥ (m a 0) → (P x2 m)) ∧ (¬ (x3 ≥ (m a 0)) → ((0 ≤ x3 ∧ x3 < (n1 : Int)) ∧ ((inR (x2 + (m h1 x3))) ∧ ((inR (x3 + 1)) ∧ (Wq l G false Y_Board_grainsOf d (QI P) 4 [(0, .inr (.inr a)), (1, .inr (.inr h1)), (2, .inl (x2 + (m h1 x3))), (3, .inl (x3 + 1))] [] m)))))) : Wq l G false Y_Board_grainsOf d (QI P) 4 [(0, .inr (.inr a)), (1, .inr (.inr h1)), (2, .inl x2), (3, .inl x3)] [] m := by
  refine Wp.wf (fun hw _ hl hs => ?_)
  have H0 := H hw (hl _ (List.mem_of_getElem? (i := 2) rfl)) (hl _ (List.mem_of_getElem? (i := 3) rfl))
  refine Wp.iload_n 3 3 d_Board_grainsOf_4 rfl rfl ?_
  refine Wp.aload_n 0 0 d_Board_grainsOf_5 rfl rfl ?_
  refine Wq.getI 0 rfl d_Board_grainsOf_6 fl_Board_34 (isB_lay ha) (Or.inl rfl) ?_
  obtain ⟨H2, H3⟩ := H0
  refine Wp.icmp_ge 24 d_Board_grainsOf_9 (by decide) (fun c1 => ?_) (fun c1 => ?_)
  · have H4 := H2 c1
    refine Wp.iload_n 2 2 d_Board_grainsOf_24 rfl rfl ?_
    exact Wq.iret d_Board_grainsOf_25 rfl H4
  · have H5 := H3 c1
    refine Wp.iload_n 2 2 d_Board_grainsOf_12 rfl rfl ?_
    refine Wp.aload_n 1 1 d_Board_grainsOf_13 rfl rfl ?_
    refine Wp.iload_n 3 3 d_Board_grainsOf_14 rfl rfl ?_
    obtain ⟨s6, H7⟩ := H5
    refine Wp.iald d_Board_grainsOf_15 hl1 (Or.inl rfl) s6.1 s6.2 ?_
    obtain ⟨s8, H9⟩ := H7
    refine Wp.iadd d_Board_grainsOf_16 s8 ?_
    refine Wp.istore_n 2 [(0, .inr (.inr a)), (1, .inr (.inr h1)), (2, .inl (x2 + (m h1 x3))), (3, .inl x3)] d_Board_grainsOf_17 rfl (by decide) rfl ?_
    obtain ⟨s10, H11⟩ := H9
    refine Wp.iinc 3 3 [(0, .inr (.inr a)), (1, .inr (.inr h1)), (2, .inl (x2 + (m h1 x3))), (3, .inl (x3 + 1))] d_Board_grainsOf_18 rfl s10 (by decide) rfl ?_
    refine Wp.goto 4 d_Board_grainsOf_21 (by decide) ?_
    exact H11
theorem d_Board_exchangeable_0 : decode Y_Board_exchangeable.2.1 0 = .ok (.aload_n 0, 1) := by decide +kernel
theorem d_Board_exchangeable_1 : decode Y_Board_exchangeable.2.1 1 = .ok (.iload_n 1, 1) := by decide +kernel
theorem d_Board_exchangeable_2 : decode Y_Board_exchangeable.2.1 2 = .ok (.invokevirtual 59, 3) := by decide +kernel
theorem d_Board_exchangeable_5 : decode Y_Board_exchangeable.2.1 5 = .ok (.ifCond .eq 26, 3) := by decide +kernel
theorem d_Board_exchangeable_8 : decode Y_Board_exchangeable.2.1 8 = .ok (.aload_n 0, 1) := by decide +kernel
theorem d_Board_exchangeable_9 : decode Y_Board_exchangeable.2.1 9 = .ok (.iload_n 2, 1) := by decide +kernel
theorem d_Board_exchangeable_10 : decode Y_Board_exchangeable.2.1 10 = .ok (.invokevirtual 59, 3) := by decide +kernel
theorem d_Board_exchangeable_13 : decode Y_Board_exchangeable.2.1 13 = .ok (.ifCond .eq 18, 3) := by decide +kernel
theorem d_Board_exchangeable_16 : decode Y_Board_exchangeable.2.1 16 = .ok (.aload_n 0, 1) := by decide +kernel
theorem d_Board_exchangeable_17 : decode Y_Board_exchangeable.2.1 17 = .ok (.getfield 18, 3) := by decide +kernel
theorem d_Board_exchangeable_20 : decode Y_Board_exchangeable.2.1 20 = .ok (.iload_n 1, 1) := by decide +kernel
theorem d_Board_exchangeable_21 : decode Y_Board_exchangeable.2.1 21 = .ok (.iaload, 1) := by decide +kernel
theorem d_Board_exchangeable_22 : decode Y_Board_exchangeable.2.1 22 = .ok (.aload_n 0, 1) := by decide +kernel
theorem d_Board_exchangeable_23 : decode Y_Board_exchangeable.2.1 23 = .ok (.getfield 18, 3) := by decide +kernel
theorem d_Board_exchangeable_26 : decode Y_Board_exchangeable.2.1 26 = .ok (.iload_n 2, 1) := by decide +kernel
theorem d_Board_exchangeable_27 : decode Y_Board_exchangeable.2.1 27 = .ok (.iaload, 1) := by decide +kernel
theorem d_Board_exchangeable_28 : decode Y_Board_exchangeable.2.1 28 = .ok (.if_icmp .eq 5, 3) := by decide +kernel
theorem d_Board_exchangeable_31 : decode Y_Board_exchangeable.2.1 31 = .ok (.iconst 0, 1) := by decide +kernel
theorem d_Board_exchangeable_32 : decode Y_Board_exchangeable.2.1 32 = .ok (.ireturn, 1) := by decide +kernel
theorem d_Board_exchangeable_33 : decode Y_Board_exchangeable.2.1 33 = .ok (.iconst 0, 1) := by decide +kernel
theorem d_Board_exchangeable_34 : decode Y_Board_exchangeable.2.1 34 = .ok (.istore_n 3, 1) := by decide +kernel
theorem d_Board_exchangeable_35 : decode Y_Board_exchangeable.2.1 35 = .ok (.iload_n 3, 1) := by decide +kernel
theorem d_Board_exchangeable_36 : decode Y_Board_exchangeable.2.1 36 = .ok (.aload_n 0, 1) := by decide +kernel
theorem d_Board_exchangeable_37 : decode Y_Board_exchangeable.2.1 37 = .ok (.getfield 34, 3) := by decide +kernel
theorem d_Board_exchangeable_40 : decode Y_Board_exchangeable.2.1 40 = .ok (.if_icmp .ge 36, 3) := by decide +kernel
theorem d_Board_exchangeable_43 : decode Y_Board_exchangeable.2.1 43 = .ok (.iload_n 3, 1) := by decide +kernel
theorem d_Board_exchangeable_44 : decode Y_Board_exchangeable.2.1 44 = .ok (.iload_n 1, 1) := by decide +kernel
theorem d_Board_exchangeable_45 : decode Y_Board_exchangeable.2.1 45 = .ok (.if_icmp .eq 25, 3) := by decide +kernel
theorem d_Board_exchangeable_48 : decode Y_Board_exchangeable.2.1 48 = .ok (.iload_n 3, 1) := by decide +kernel
theorem d_Board_exchangeable_49 : decode Y_Board_exchangeable.2.1 49 = .ok (.iload_n 2, 1) := by decide +kernel
theorem d_Board_exchangeable_50 : decode Y_Board_exchangeable.2.1 50 = .ok (.if_icmp .eq 20, 3) := by decide +kernel
theorem d_Board_exchangeable_53 : decode Y_Board_exchangeable.2.1 53 = .ok (.aload_n 0, 1) := by decide +kernel
theorem d_Board_exchangeable_54 : decode Y_Board_exchangeable.2.1 54 = .ok (.iload_n 1, 1) := by decide +kernel
theorem d_Board_exchangeable_55 : decode Y_Board_exchangeable.2.1 55 = .ok (.iload_n 3, 1) := by decide +kernel
theorem d_Board_exchangeable_56 : decode Y_Board_exchangeable.2.1 56 = .ok (.invokevirtual 63, 3) := by decide +kernel
theorem d_Board_exchangeable_59 : decode Y_Board_exchangeable.2.1 59 = .ok (.aload_n 0, 1) := by decide +kernel
theorem d_Board_exchangeable_60 : decode Y_Board_exchangeable.2.1 60 = .ok (.iload_n 2, 1) := by decide +kernel
theorem d_Board_exchangeable_61 : decode Y_Board_exchangeable.2.1 61 = .ok (.iload_n 3, 1) := by decide +kernel
theorem d_Board_exchangeable_62 : decode Y_Board_exchangeable.2.1 62 = .ok (.invokevirtual 63, 3) := by decide +kernel
theorem d_Board_exchangeable_65 : decode Y_Board_exchangeable.2.1 65 = .ok (.if_icmp .eq 5, 3) := by decide +kernel
theorem d_Board_exchangeable_68 : decode Y_Board_exchangeable.2.1 68 = .ok (.iconst 0, 1) := by decide +kernel
theorem d_Board_exchangeable_69 : decode Y_Board_exchangeable.2.1 69 = .ok (.ireturn, 1) := by decide +kernel
theorem d_Board_exchangeable_70 : decode Y_Board_exchangeable.2.1 70 = .ok (.iinc 3 1, 3) := by decide +kernel
theorem d_Board_exchangeable_73 : decode Y_Board_exchangeable.2.1 73 = .ok (.goto (-38), 3) := by decide +kernel
theorem d_Board_exchangeable_76 : decode Y_Board_exchangeable.2.1 76 = .ok (.iconst 1, 1) := by decide +kernel
theorem d_Board_exchangeable_77 : decode Y_Board_exchangeable.2.1 77 = .ok (.ireturn, 1) := by decide +kernel
theorem e_Board_exchangeable {l : Launch} {G : GT} {d : Nat} {P : Int → MM → Prop} {m : MM} (x1 : Int) (x2 : Int) (a : Nat) (ha : isB a) (H : wfM m → inR x1 → inR x2 → ∃ (e1 : Nat) (P2 : Int → MM → Prop), e1 < d ∧ CI l G Y_Board_has e1 [.inr (.inr a), .inl x1] m P2 ∧ (∀ z7 m8, P2 z7 m8 → inR z7 → wfM m8 → ((z7 = 0 → (P 0 m8)) ∧ (¬ (z7 = 0) → (∃ (e17 : Nat) (P18 : Int → MM → Prop), e17 < d ∧ CI l G Y_Board_has e17 [.inr (.inr a), .inl x2] m8 P18 ∧ (∀ z23 m24, P18 z23 m24 → inR z23 → wfM m24 → ((z23 = 0 → (P 0 m24)) ∧ (¬ (z23 = 0) → ((0 ≤ x1 ∧ x1 < (5 : Int)) ∧ ((0 ≤ x2 ∧ x2 < (5 : Int)) ∧ (((m24 (a + 3) x1) = (m24 (a + 3) x2) → (Wq l G false Y_Board_exchangeable d (QI P) 35 [(0, .inr (.inr a)), (1, .inl x1), (2, .inl x2), (3, .inl 0)] [] m24)) ∧ (¬ ((m24 (a + 3) x1) = (m24 (a + 3) x2)) → (P 0 m24))))))))))))) : CI l G Y_Board_exchangeable d [.inr (.inr a), .inl x1, .inl x2] m P := by
  refine CI.of [(0, .inr (.inr a)), (1, .inl x1), (2, .inl x2)] k_Board_exchangeable.1 (Nat.le_of_ble_eq_true rfl) rfl (Wp.wf (fun hw _ hl hs => ?_))
  have H0 := H hw (hl _ (List.mem_of_getElem? (i := 1) rfl)) (hl _ (List.mem_of_getElem? (i := 2) rfl))
  refine Wp.aload_n 0 0 d_Board_exchangeable_0 rfl rfl ?_
  refine Wp.iload_n 1 1 d_Board_exchangeable_1 rfl rfl ?_
  obtain ⟨e1, P2, hd3, ho4, H5⟩ := H0
  refine Wq.VI (st := []) [.inl x1] d_Board_exchangeable_2 k_Board_has ml_Board_59 rfl (isB_lay ha) rfl (fun h => by cases h) (Nat.le_of_ble_eq_true rfl) hd3 ho4 (fun z7 m8 hp9 hz10 hw11 => ?_)
  have H6 := H5 z7 m8 hp9 hz10 hw11
  obtain ⟨H13, H14⟩ := H6
  refine Wp.if_eq 31 d_Board_exchangeable_5 (by decide) (fun c12 => ?_) (fun c12 => ?_)
  · have H15 := H13 c12
    refine Wp.iconst d_Board_exchangeable_31 (by decide) ?_
    exact Wq.zret d_Board_exchangeable_32 rfl (by decide) H15
  · have H16 := H14 c12
    refine Wp.aload_n 0 0 d_Board_exchangeable_8 rfl rfl ?_
    refine Wp.iload_n 2 2 d_Board_exchangeable_9 rfl rfl ?_
    obtain ⟨e17, P18, hd19, ho20, H21⟩ := H16
    refine Wq.VI (st := []) [.inl x2] d_Board_exchangeable_10 k_Board_has ml_Board_59 rfl (isB_lay ha) rfl (fun h => by cases h) (Nat.le_of_ble_eq_true rfl) hd19 ho20 (fun z23 m24 hp25 hz26 hw27 => ?_)
    have H22 := H21 z23 m24 hp25 hz26 hw27
    obtain ⟨H29, H30⟩ := H22
    refine Wp.if_eq 31 d_Board_exchangeable_13 (by decide) (fun c28 => ?_) (fun c28 => ?_)
    · have H31 := H29 c28
      refine Wp.iconst d_Board_exchangeable_31 (by decide) ?_
      exact Wq.zret d_Board_exchangeable_32 rfl (by decide) H31
    · have H32 := H30 c28
      refine Wp.aload_n 0 0 d_Board_exchangeable_16 rfl rfl ?_
      refine Wp.getP (a + 3) d_Board_exchangeable_17 fl_Board_18 (isB_lay ha) rfl (isB_p7 ha) ?_
      refine Wp.iload_n 1 1 d_Board_exchangeable_20 rfl rfl ?_
      obtain ⟨s33, H34⟩ := H32
      refine Wp.iald d_Board_exchangeable_21 (isB_l7 ha) (Or.inl rfl) s33.1 s33.2 ?_
      refine Wp.aload_n 0 0 d_Board_exchangeable_22 rfl rfl ?_
      refine Wp.getP (a + 3) d_Board_exchangeable_23 fl_Board_18 (isB_lay ha) rfl (isB_p7 ha) ?_
      refine Wp.iload_n 2 2 d_Board_exchangeable_26 rfl rfl ?_
      obtain ⟨s35, H36⟩ := H34
      refine Wp.iald d_Board_exchangeable_27 (isB_l7 ha) (Or.inl rfl) s35.1 s35.2 ?_
      obtain ⟨H38, H39⟩ := H36
      refine Wp.icmp_eq 33 d_Board_exchangeable_28 (by decide) (fun c37 => ?_) (fun c37 => ?_)
      · have H40 := H38 c37
        refine Wp.iconst d_Board_exchangeable_33 (by decide) ?_
        refine Wp.istore_n 3 [(0, .inr (.inr a)), (1, .inl x1), (2, .inl x2), (3, .inl 0)] d_Board_exchangeable_34 rfl (by decide) rfl ?_
        exact H40
      · have H41 := H39 c37
        refine Wp.iconst d_Board_exchangeable_31 (by decide) ?_
        exact Wq.zret d_Board_exchangeable_32 rfl (by decide) H41
theorem s_Board_exchangeable_35 {l : Launch} {G : GT} {d : Nat} {P : Int → MM → Prop} {m : MM} (x1 : Int) (x2 : Int) (x3 : Int) (a : Nat) (ha : isB a) (H : wfM m → inR x1 → inR x2 → inR x3 → (x3 ≥ (m a 0) → (P 1 m)) ∧ (¬ (x3 ≥ (m a 0)) → ((x3 = x1 → ((inR (x3 + 1)) ∧ (Wq l G false Y_Board_exchangeable d (QI P) 35 [(0, .inr (.inr a)), (1, .inl x1), (2, .inl x2), (3, .inl (x3 + 1))] [] m))) ∧ (¬ (x3 = x1) → ((x3 = x2 → ((inR (x3 + 1)) ∧ (Wq l G false Y_Board_exchangeable d (QI P) 35 [(0, .inr (.inr a)), (1, .inl x1), (2, .inl x2), (3, .inl (x3 + 1))] [] m))) ∧ (¬ (x3 = x2) → (∃ (e20 : Nat) (P21 : Int → MM → Prop), e20 < d ∧ CI l G Y_Board_width e20 [.inr (.inr a), .inl x1, .inl x3] m P21 ∧ (∀ z26 m27, P21 z26 m27 → inR z26 → wfM m27 → (∃ (e31 : Nat) (P32 : Int → MM → Prop), e31 < d ∧ CI l G Y_Board_width e31 [.inr (.inr a), .inl x2, .inl x3] m27 P32 ∧ (∀ z37 m38, P32 z37 m38 → inR z37 → wfM m38 → ((z26 = z37 → ((inR (x3 + 1)) ∧ (Wq l G false Y_Board_exchangeable d (QI P) 35 [(0, .inr (.inr a)), (1, .inl x1), (2, .inl x2), (3, .inl (x3 + 1))] [] m38))) ∧ (¬ (z26 = z37) → (P 0 m38))))))))))))) : Wq l G false Y_Board_exchangeable d (QI P) 35 [(0, .inr (.inr a)), (1, .inl x1), (2, .inl x2), (3, .inl x3)] [] m := by
  refine Wp.wf (fun hw _ hl hs => ?_)
  have H0 := H hw (hl _ (List.mem_of_getElem? (i := 1) rfl)) (hl _ (List.mem_of_getElem? (i := 2) rfl)) (hl _ (List.mem_of_getElem? (i := 3) rfl))
  refine Wp.iload_n 3 3 d_Board_exchangeable_35 rfl rfl ?_
  refine Wp.aload_n 0 0 d_Board_exchangeable_36 rfl rfl ?_
  refine Wq.getI 0 rfl d_Board_exchangeable_37 fl_Board_34 (isB_lay ha) (Or.inl rfl) ?_
  obtain ⟨H2, H3⟩ := H0
  refine Wp.icmp_ge 76 d_Board_exchangeable_40 (by decide) (fun c1 => ?_) (fun c1 => ?_)
  · have H4 := H2 c1
    refine Wp.iconst d_Board_exchangeable_76 (by decide) ?_
    exact Wq.zret d_Board_exchangeable_77 rfl (by decide) H4
  · have H5 := H3 c1
    refine Wp.iload_n 3 3 d_Board_exchangeable_43 rfl rfl ?_
    refine Wp.iload_n 1 1 d_Board_exchangeable_44 rfl rfl ?_
    obtain ⟨H7, H8⟩ := H5
    refine Wp.icmp_eq 70 d_Board_exchangeable_45 (by decide) (fun c6 => ?_) (fun c6 => ?_)
    · have H9 := H7 c6
      obtain ⟨s11, H12⟩ := H9
      refine Wp.iinc 3 3 [(0, .inr (.inr a)), (1, .inl x1), (2, .inl x2), (3, .inl (x3 + 1))] d_Board_exchangeable_70 rfl s11 (by decide) rfl ?_
      refine Wp.goto 35 d_Board_exchangeable_73 (by decide) ?_
      exact H12
    · have H10 := H8 c6
      refine Wp.iload_n 3 3 d_Board_exchangeable_48 rfl rfl ?_
      refine Wp.iload_n 2 2 d_Board_exchangeable_49 rfl rfl ?_
      obtain ⟨H14, H15⟩ := H10
      refine Wp.icmp_eq 70 d_Board_exchangeable_50 (by decide) (fun c13 => ?_) (fun c13 => ?_)
      · have H16 := H14 c13
        obtain ⟨s18, H19⟩ := H16
        refine Wp.iinc 3 3 [(0, .inr (.inr a)), (1, .inl x1), (2, .inl x2), (3, .inl (x3 + 1))] d_Board_exchangeable_70 rfl s18 (by decide) rfl ?_
        refine Wp.goto 35 d_Board_exchangeable_73 (by decide) ?_
        exact H19
      · have H17 := H15 c13
        refine Wp.aload_n 0 0 d_Board_exchangeable_53 rfl rfl ?_
        refine Wp.iload_n 1 1 d_Board_exchangeable_54 rfl rfl ?_
        refine Wp.iload_n 3 3 d_Board_exchangeable_55 rfl rfl ?_
        obtain ⟨e20, P21, hd22, ho23, H24⟩ := H17
        refine Wq.VI (st := []) [.inl x1, .inl x3] d_Board_exchangeable_56 k_Board_width ml_Board_63 rfl (isB_lay ha) rfl (fun h => by cases h) (Nat.le_of_ble_eq_true rfl) hd22 ho23 (fun z26 m27 hp28 hz29 hw30 => ?_)
        have H25 := H24 z26 m27 hp28 hz29 hw30
        refine Wp.aload_n 0 0 d_Board_exchangeable_59 rfl rfl ?_
        refine Wp.iload_n 2 2 d_Board_exchangeable_60 rfl rfl ?_
        refine Wp.iload_n 3 3 d_Board_exchangeable_61 rfl rfl ?_
        obtain ⟨e31, P32, hd33, ho34, H35⟩ := H25
        refine Wq.VI (st := [.inl z26]) [.inl x2, .inl x3] d_Board_exchangeable_62 k_Board_width ml_Board_63 rfl (isB_lay ha) rfl (fun h => by cases h) (Nat.le_of_ble_eq_true rfl) hd33 ho34 (fun z37 m38 hp39 hz40 hw41 => ?_)
        have H36 := H35 z37 m38 hp39 hz40 hw41
        obtain ⟨H43, H44⟩ := H36
        refine Wp.icmp_eq 70 d_Board_exchangeable_65 (by decide) (fun c42 => ?_) (fun c42 => ?_)
        · have H45 := H43 c42
          obtain ⟨s47, H48⟩ := H45
          refine Wp.iinc 3 3 [(0, .inr (.inr a)), (1, .inl x1), (2, .inl x2), (3, .inl (x3 + 1))] d_Board_exchangeable_70 rfl s47 (by decide) rfl ?_
          refine Wp.goto 35 d_Board_exchangeable_73 (by decide) ?_
          exact H48
        · have H46 := H44 c42
          refine Wp.iconst d_Board_exchangeable_68 (by decide) ?_
          exact Wq.zret d_Board_exchangeable_69 rfl (by decide) H46
theorem d_Sand_take_0 : decode Y_Sand_take.2.1 0 = .ok (.iconst 0, 1) := by decide +kernel
theorem d_Sand_take_1 : decode Y_Sand_take.2.1 1 = .ok (.istore_n 2, 1) := by decide +kernel
theorem d_Sand_take_2 : decode Y_Sand_take.2.1 2 = .ok (.iload_n 2, 1) := by decide +kernel
theorem d_Sand_take_3 : decode Y_Sand_take.2.1 3 = .ok (.iconst 5, 1) := by decide +kernel
theorem d_Sand_take_4 : decode Y_Sand_take.2.1 4 = .ok (.if_icmp .ge 35, 3) := by decide +kernel
theorem d_Sand_take_7 : decode Y_Sand_take.2.1 7 = .ok (.aload_n 0, 1) := by decide +kernel
theorem d_Sand_take_8 : decode Y_Sand_take.2.1 8 = .ok (.getfield 9, 3) := by decide +kernel
theorem d_Sand_take_11 : decode Y_Sand_take.2.1 11 = .ok (.iload_n 2, 1) := by decide +kernel
theorem d_Sand_take_12 : decode Y_Sand_take.2.1 12 = .ok (.iload_n 2, 1) := by decide +kernel
theorem d_Sand_take_13 : decode Y_Sand_take.2.1 13 = .ok (.aload_n 1, 1) := by decide +kernel
theorem d_Sand_take_14 : decode Y_Sand_take.2.1 14 = .ok (.arraylength, 1) := by decide +kernel
theorem d_Sand_take_15 : decode Y_Sand_take.2.1 15 = .ok (.if_icmp .ge 9, 3) := by decide +kernel
theorem d_Sand_take_18 : decode Y_Sand_take.2.1 18 = .ok (.aload_n 1, 1) := by decide +kernel
theorem d_Sand_take_19 : decode Y_Sand_take.2.1 19 = .ok (.iload_n 2, 1) := by decide +kernel
theorem d_Sand_take_20 : decode Y_Sand_take.2.1 20 = .ok (.iaload, 1) := by decide +kernel
theorem d_Sand_take_21 : decode Y_Sand_take.2.1 21 = .ok (.goto 4, 3) := by decide +kernel
theorem d_Sand_take_24 : decode Y_Sand_take.2.1 24 = .ok (.iconst 0, 1) := by decide +kernel
theorem d_Sand_take_25 : decode Y_Sand_take.2.1 25 = .ok (.iastore, 1) := by decide +kernel
theorem d_Sand_take_26 : decode Y_Sand_take.2.1 26 = .ok (.aload_n 0, 1) := by decide +kernel
theorem d_Sand_take_27 : decode Y_Sand_take.2.1 27 = .ok (.getfield 15, 3) := by decide +kernel
theorem d_Sand_take_30 : decode Y_Sand_take.2.1 30 = .ok (.iload_n 2, 1) := by decide +kernel
theorem d_Sand_take_31 : decode Y_Sand_take.2.1 31 = .ok (.iconst 0, 1) := by decide +kernel
theorem d_Sand_take_32 : decode Y_Sand_take.2.1 32 = .ok (.iastore, 1) := by decide +kernel
theorem d_Sand_take_33 : decode Y_Sand_take.2.1 33 = .ok (.iinc 2 1, 3) := by decide +kernel
theorem d_Sand_take_36 : decode Y_Sand_take.2.1 36 = .ok (.goto (-34), 3) := by decide +kernel
theorem d_Sand_take_39 : decode Y_Sand_take.2.1 39 = .ok (.aload_n 0, 1) := by decide +kernel
theorem d_Sand_take_40 : decode Y_Sand_take.2.1 40 = .ok (.iconst 0, 1) := by decide +kernel
theorem d_Sand_take_41 : decode Y_Sand_take.2.1 41 = .ok (.putfield 18, 3) := by decide +kernel
theorem d_Sand_take_44 : decode Y_Sand_take.2.1 44 = .ok (.aload_n 0, 1) := by decide +kernel
theorem d_Sand_take_45 : decode Y_Sand_take.2.1 45 = .ok (.iconst 0, 1) := by decide +kernel
theorem d_Sand_take_46 : decode Y_Sand_take.2.1 46 = .ok (.putfield 22, 3) := by decide +kernel
theorem d_Sand_take_49 : decode Y_Sand_take.2.1 49 = .ok (.return_, 1) := by decide +kernel
theorem e_Sand_take {l : Launch} {G : GT} {d : Nat} {P : MM → Prop} {m : MM} (a : Nat) (h1 : Nat) (n1 : Nat) (ha : isS a) (hl1 : q_lay h1 = .inr (0, n1)) (hlt_h1 : n1 < 2147483648) (H : wfM m → Wq l G false Y_Sand_take d (QV P) 2 [(0, .inr (.inr a)), (1, .inr (.inr h1)), (2, .inl 0)] [] m) : CV l G Y_Sand_take d [.inr (.inr a), .inr (.inr h1)] m P := by
  refine CV.of [(0, .inr (.inr a)), (1, .inr (.inr h1))] k_Sand_take.1 (Nat.le_of_ble_eq_true rfl) rfl (Wp.wf (fun hw _ hl hs => ?_))
  have H0 := H hw
  refine Wp.iconst d_Sand_take_0 (by decide) ?_
  refine Wp.istore_n 2 [(0, .inr (.inr a)), (1, .inr (.inr h1)), (2, .inl 0)] d_Sand_take_1 rfl (by decide) rfl ?_
  exact H0
theorem s_Sand_take_2 {l : Launch} {G : GT} {d : Nat} {P : MM → Prop} {m : MM} (x2 : Int) (a : Nat) (h1 : Nat) (n1 : Nat) (ha : isS a) (hl1 : q_lay h1 = .inr (0, n1)) (hlt_h1 : n1 < 2147483648) (H : wfM m → inR x2 → (x2 ≥ 5 → (∀ m6, m6 = up m a 2 0 → (∀ m9, m9 = up m6 a 3 0 → (P m9)))) ∧ (¬ (x2 ≥ 5) → ((0 < n1 ∧ n1 < 2147483648) ∧ ((x2 ≥ (n1 : Int) → ((0 ≤ x2 ∧ x2 < (5 : Int)) ∧ (∀ m19, m19 = up m (a + 1) x2 0 → ((0 ≤ x2 ∧ x2 < (5 : Int)) ∧ (∀ m24, m24 = up m19 (a + 2) x2 0 → ((inR (x2 + 1)) ∧ (Wq l G false Y_Sand_take d (QV P) 2 [(0, .inr (.inr a)), (1, .inr (.inr h1)), (2, .inl (x2 + 1))] [] m24))))))) ∧ (¬ (x2 ≥ (n1 : Int)) → ((0 ≤ x2 ∧ x2 < (n1 : Int)) ∧ ((0 ≤ x2 ∧ x2 < (5 : Int)) ∧ (∀ m37, m37 = up m (a + 1) x2 (m h1 x2) → ((0 ≤ x2 ∧ x2 < (5 : Int)) ∧ (∀ m42, m42 = up m37 (a + 2) x2 0 → ((inR (x2 + 1)) ∧ (Wq l G false Y_Sand_take d (QV P) 2 [(0, .inr (.inr a)), (1, .inr (.inr h1)), (2, .inl (x2 + 1))] [] m42)))))))))))) : Wq l G false Y_Sand_take d (QV P) 2 [(0, .inr (.inr a)), (1, .inr (.inr h1)), (2, .inl x2)] [] m := by
  refine Wp.wf (fun hw _ hl hs => ?_)
  have H0 := H hw (hl _ (List.mem_of_getElem? (i := 2) rfl))
  refine Wp.iload_n 2 2 d_Sand_take_2 rfl rfl ?_
  refine Wp.iconst d_Sand_take_3 (by decide) ?_
  obtain ⟨H2, H3⟩ := H0
  refine Wp.icmp_ge 39 d_Sand_take_4 (by decide) (fun c1 => ?_) (fun c1 => ?_)
  · have H4 := H2 c1
    refine Wp.aload_n 0 0 d_Sand_take_39 rfl rfl ?_
    refine Wp.iconst d_Sand_take_40 (by decide) ?_
    refine Wq.putI 2 rfl d_Sand_take_41 fl_Sand_18 (fun _ _ _ h => by cases h; rfl) (isS_lay ha) (isS_n2 ha) rfl (fun m6 hm7 => ?_)
    have H8 := H4 m6 hm7
    refine Wp.aload_n 0 0 d_Sand_take_44 rfl rfl ?_
    refine Wp.iconst d_Sand_take_45 (by decide) ?_
    refine Wq.putI 3 rfl d_Sand_take_46 fl_Sand_22 (fun _ _ _ h => by cases h; rfl) (isS_lay ha) (isS_n3 ha) rfl (fun m9 hm10 => ?_)
    have H11 := H8 m9 hm10
    exact Wq.vret d_Sand_take_49 rfl H11
  · have H5 := H3 c1
    refine Wp.aload_n 0 0 d_Sand_take_7 rfl rfl ?_
    refine Wp.getP (a + 1) d_Sand_take_8 fl_Sand_9 (isS_lay ha) rfl (isS_p0 ha) ?_
    refine Wp.iload_n 2 2 d_Sand_take_11 rfl rfl ?_
    refine Wp.iload_n 2 2 d_Sand_take_12 rfl rfl ?_
    refine Wp.aload_n 1 1 d_Sand_take_13 rfl rfl ?_
    obtain ⟨s12, H13⟩ := H5
    refine Wp.alen d_Sand_take_14 hl1 (by decide) s12.1 s12.2 (Or.inl rfl) ?_
    obtain ⟨H15, H16⟩ := H13
    refine Wp.icmp_ge 24 d_Sand_take_15 (by decide) (fun c14 => ?_) (fun c14 => ?_)
    · have H17 := H15 c14
      refine Wp.iconst d_Sand_take_24 (by decide) ?_
      obtain ⟨s33, H34⟩ := H17
      refine Wq.iast d_Sand_take_25 (isS_l0 ha) s33.1 s33.2 (fun m19 hm20 => ?_)
      have H21 := H34 m19 hm20
      refine Wp.aload_n 0 0 d_Sand_take_26 rfl rfl ?_
      refine Wp.getP (a + 2) d_Sand_take_27 fl_Sand_15 (isS_lay ha) rfl (isS_p1 ha) ?_
      refine Wp.iload_n 2 2 d_Sand_take_30 rfl rfl ?_
      refine Wp.iconst d_Sand_take_31 (by decide) ?_
      obtain ⟨s31, H32⟩ := H21
      refine Wq.iast d_Sand_take_32 (isS_l1 ha) s31.1 s31.2 (fun m24 hm25 => ?_)
      have H26 := H32 m24 hm25
      obtain ⟨s29, H30⟩ := H26
      refine Wp.iinc 2 2 [(0, .inr (.inr a)), (1, .inr (.inr h1)), (2, .inl (x2 + 1))] d_Sand_take_33 rfl s29 (by decide) rfl ?_
      refine Wp.goto 2 d_Sand_take_36 (by decide) ?_
      exact H30
    · have H18 := H16 c14
      refine Wp.aload_n 1 1 d_Sand_take_18 rfl rfl ?_
      refine Wp.iload_n 2 2 d_Sand_take_19 rfl rfl ?_
      obtain ⟨s35, H36⟩ := H18
      refine Wp.iald d_Sand_take_20 hl1 (Or.inl rfl) s35.1 s35.2 ?_
      refine Wp.goto 25 d_Sand_take_21 (by decide) ?_
      obtain ⟨s51, H52⟩ := H36
      refine Wq.iast d_Sand_take_25 (isS_l0 ha) s51.1 s51.2 (fun m37 hm38 => ?_)
      have H39 := H52 m37 hm38
      refine Wp.aload_n 0 0 d_Sand_take_26 rfl rfl ?_
      refine Wp.getP (a + 2) d_Sand_take_27 fl_Sand_15 (isS_lay ha) rfl (isS_p1 ha) ?_
      refine Wp.iload_n 2 2 d_Sand_take_30 rfl rfl ?_
      refine Wp.iconst d_Sand_take_31 (by decide) ?_
      obtain ⟨s49, H50⟩ := H39
      refine Wq.iast d_Sand_take_32 (isS_l1 ha) s49.1 s49.2 (fun m42 hm43 => ?_)
      have H44 := H50 m42 hm43
      obtain ⟨s47, H48⟩ := H44
      refine Wp.iinc 2 2 [(0, .inr (.inr a)), (1, .inr (.inr h1)), (2, .inl (x2 + 1))] d_Sand_take_33 rfl s47 (by decide) rfl ?_
      refine Wp.goto 2 d_Sand_take_36 (by decide) ?_
      exact H48
theorem d_Sand_calm_0 : decode Y_Sand_calm.2.1 0 = .ok (.iconst 1, 1) := by decide +kernel
theorem d_Sand_calm_1 : decode Y_Sand_calm.2.1 1 = .ok (.istore_n 2, 1) := by decide +kernel
theorem d_Sand_calm_2 : decode Y_Sand_calm.2.1 2 = .ok (.iconst 0, 1) := by decide +kernel
theorem d_Sand_calm_3 : decode Y_Sand_calm.2.1 3 = .ok (.istore_n 3, 1) := by decide +kernel
theorem d_Sand_calm_4 : decode Y_Sand_calm.2.1 4 = .ok (.iload_n 3, 1) := by decide +kernel
theorem d_Sand_calm_5 : decode Y_Sand_calm.2.1 5 = .ok (.ldc 25, 2) := by decide +kernel
theorem d_Sand_calm_7 : decode Y_Sand_calm.2.1 7 = .ok (.if_icmp .ge 78, 3) := by decide +kernel
theorem d_Sand_calm_10 : decode Y_Sand_calm.2.1 10 = .ok (.iload_n 2, 1) := by decide +kernel
theorem d_Sand_calm_11 : decode Y_Sand_calm.2.1 11 = .ok (.ifCond .eq 74, 3) := by decide +kernel
theorem d_Sand_calm_14 : decode Y_Sand_calm.2.1 14 = .ok (.iconst 0, 1) := by decide +kernel
theorem d_Sand_calm_15 : decode Y_Sand_calm.2.1 15 = .ok (.istore_n 2, 1) := by decide +kernel
theorem d_Sand_calm_16 : decode Y_Sand_calm.2.1 16 = .ok (.iconst 0, 1) := by decide +kernel
theorem d_Sand_calm_17 : decode Y_Sand_calm.2.1 17 = .ok (.istore 4, 2) := by decide +kernel
theorem d_Sand_calm_19 : decode Y_Sand_calm.2.1 19 = .ok (.iload 4, 2) := by decide +kernel
theorem d_Sand_calm_21 : decode Y_Sand_calm.2.1 21 = .ok (.aload_n 1, 1) := by decide +kernel
theorem d_Sand_calm_22 : decode Y_Sand_calm.2.1 22 = .ok (.getfield 26, 3) := by decide +kernel
theorem d_Sand_calm_25 : decode Y_Sand_calm.2.1 25 = .ok (.if_icmp .ge 54, 3) := by decide +kernel
theorem d_Sand_calm_28 : decode Y_Sand_calm.2.1 28 = .ok (.aload_n 1, 1) := by decide +kernel
theorem d_Sand_calm_29 : decode Y_Sand_calm.2.1 29 = .ok (.getfield 31, 3) := by decide +kernel
theorem d_Sand_calm_32 : decode Y_Sand_calm.2.1 32 = .ok (.iload 4, 2) := by decide +kernel
theorem d_Sand_calm_34 : decode Y_Sand_calm.2.1 34 = .ok (.iaload, 1) := by decide +kernel
theorem d_Sand_calm_35 : decode Y_Sand_calm.2.1 35 = .ok (.istore 5, 2) := by decide +kernel
theorem d_Sand_calm_37 : decode Y_Sand_calm.2.1 37 = .ok (.iload 5, 2) := by decide +kernel
theorem d_Sand_calm_39 : decode Y_Sand_calm.2.1 39 = .ok (.ifCond .le 34, 3) := by decide +kernel
theorem d_Sand_calm_42 : decode Y_Sand_calm.2.1 42 = .ok (.aload_n 0, 1) := by decide +kernel
theorem d_Sand_calm_43 : decode Y_Sand_calm.2.1 43 = .ok (.getfield 9, 3) := by decide +kernel
theorem d_Sand_calm_46 : decode Y_Sand_calm.2.1 46 = .ok (.iload 4, 2) := by decide +kernel
theorem d_Sand_calm_48 : decode Y_Sand_calm.2.1 48 = .ok (.iaload, 1) := by decide +kernel
theorem d_Sand_calm_49 : decode Y_Sand_calm.2.1 49 = .ok (.iload 5, 2) := by decide +kernel
theorem d_Sand_calm_51 : decode Y_Sand_calm.2.1 51 = .ok (.if_icmp .lt 22, 3) := by decide +kernel
theorem d_Sand_calm_54 : decode Y_Sand_calm.2.1 54 = .ok (.aload_n 0, 1) := by decide +kernel
theorem d_Sand_calm_55 : decode Y_Sand_calm.2.1 55 = .ok (.aload_n 1, 1) := by decide +kernel
theorem d_Sand_calm_56 : decode Y_Sand_calm.2.1 56 = .ok (.iload 4, 2) := by decide +kernel
theorem d_Sand_calm_58 : decode Y_Sand_calm.2.1 58 = .ok (.aload_n 0, 1) := by decide +kernel
theorem d_Sand_calm_59 : decode Y_Sand_calm.2.1 59 = .ok (.getfield 9, 3) := by decide +kernel
theorem d_Sand_calm_62 : decode Y_Sand_calm.2.1 62 = .ok (.iload 4, 2) := by decide +kernel
theorem d_Sand_calm_64 : decode Y_Sand_calm.2.1 64 = .ok (.iaload, 1) := by decide +kernel
theorem d_Sand_calm_65 : decode Y_Sand_calm.2.1 65 = .ok (.iload 5, 2) := by decide +kernel
theorem d_Sand_calm_67 : decode Y_Sand_calm.2.1 67 = .ok (.idiv, 1) := by decide +kernel
theorem d_Sand_calm_68 : decode Y_Sand_calm.2.1 68 = .ok (.invokevirtual 34, 3) := by decide +kernel
theorem d_Sand_calm_71 : decode Y_Sand_calm.2.1 71 = .ok (.iconst 1, 1) := by decide +kernel
theorem d_Sand_calm_72 : decode Y_Sand_calm.2.1 72 = .ok (.istore_n 2, 1) := by decide +kernel
theorem d_Sand_calm_73 : decode Y_Sand_calm.2.1 73 = .ok (.iinc 4 1, 3) := by decide +kernel
theorem d_Sand_calm_76 : decode Y_Sand_calm.2.1 76 = .ok (.goto (-57), 3) := by decide +kernel
theorem d_Sand_calm_79 : decode Y_Sand_calm.2.1 79 = .ok (.iinc 3 1, 3) := by decide +kernel
theorem d_Sand_calm_82 : decode Y_Sand_calm.2.1 82 = .ok (.goto (-78), 3) := by decide +kernel
theorem d_Sand_calm_85 : decode Y_Sand_calm.2.1 85 = .ok (.return_, 1) := by decide +kernel
theorem e_Sand_calm {l : Launch} {G : GT} {d : Nat} {P : MM → Prop} {m : MM} (a : Nat) (b1_ : Nat) (ha : isS a) (hB1_ : isB b1_) (H : wfM m → Wq l G false Y_Sand_calm d (QV P) 4 [(0, .inr (.inr a)), (1, .inr (.inr b1_)), (2, .inl 1), (3, .inl 0)] [] m) : CV l G Y_Sand_calm d [.inr (.inr a), .inr (.inr b1_)] m P := by
  refine CV.of [(0, .inr (.inr a)), (1, .inr (.inr b1_))] k_Sand_calm.1 (Nat.le_of_ble_eq_true rfl) rfl (Wp.wf (fun hw _ hl hs => ?_))
  have H0 := H hw
  refine Wp.iconst d_Sand_calm_0 (by decide) ?_
  refine Wp.istore_n 2 [(0, .inr (.inr a)), (1, .inr (.inr b1_)), (2, .inl 1)] d_Sand_calm_1 rfl (by decide) rfl ?_
  refine Wp.iconst d_Sand_calm_2 (by decide) ?_
  refine Wp.istore_n 3 [(0, .inr (.inr a)), (1, .inr (.inr b1_)), (2, .inl 1), (3, .inl 0)] d_Sand_calm_3 rfl (by decide) rfl ?_
  exact H0
theorem s_Sand_calm_4 {l : Launch} {G : GT} {d : Nat} {P : MM → Prop} {m : MM} (x2 : Int) (x3 : Int) (a : Nat) (b1_ : Nat) (ha : isS a) (hB1_ : isB b1_) (H : wfM m → inR x2 → inR x3 → (x3 ≥ 1000000 → (P m)) ∧ (¬ (x3 ≥ 1000000) → ((x2 = 0 → (P m)) ∧ (¬ (x2 = 0) → (Wq l G false Y_Sand_calm d (QV P) 19 [(0, .inr (.inr a)), (1, .inr (.inr b1_)), (2, .inl 0), (3, .inl x3), (4, .inl 0)] [] m))))) : Wq l G false Y_Sand_calm d (QV P) 4 [(0, .inr (.inr a)), (1, .inr (.inr b1_)), (2, .inl x2), (3, .inl x3)] [] m := by
  refine Wp.wf (fun hw _ hl hs => ?_)
  have H0 := H hw (hl _ (List.mem_of_getElem? (i := 2) rfl)) (hl _ (List.mem_of_getElem? (i := 3) rfl))
  refine Wp.iload_n 3 3 d_Sand_calm_4 rfl rfl ?_
  refine Wp.ldc (z := 1000000) d_Sand_calm_5 kc_Sand_25 (by decide) (by decide) ?_
  obtain ⟨H2, H3⟩ := H0
  refine Wp.icmp_ge 85 d_Sand_calm_7 (by decide) (fun c1 => ?_) (fun c1 => ?_)
  · have H4 := H2 c1
    exact Wq.vret d_Sand_calm_85 rfl H4
  · have H5 := H3 c1
    refine Wp.iload_n 2 2 d_Sand_calm_10 rfl rfl ?_
    obtain ⟨H7, H8⟩ := H5
    refine Wp.if_eq 85 d_Sand_calm_11 (by decide) (fun c6 => ?_) (fun c6 => ?_)
    · have H9 := H7 c6
      exact Wq.vret d_Sand_calm_85 rfl H9
    · have H10 := H8 c6
      refine Wp.iconst d_Sand_calm_14 (by decide) ?_
      refine Wp.istore_n 2 [(0, .inr (.inr a)), (1, .inr (.inr b1_)), (2, .inl 0), (3, .inl x3)] d_Sand_calm_15 rfl (by decide) rfl ?_
      refine Wp.iconst d_Sand_calm_16 (by decide) ?_
      refine Wp.istore 4 [(0, .inr (.inr a)), (1, .inr (.inr b1_)), (2, .inl 0), (3, .inl x3), (4, .inl 0)] d_Sand_calm_17 (by decide) rfl ?_
      exact H10
theorem s_Sand_calm_19 {l : Launch} {G : GT} {d : Nat} {P : MM → Prop} {m : MM} (x2 : Int) (x3 : Int) (x4 : Int) (a : Nat) (b1_ : Nat) (ha : isS a) (hB1_ : isB b1_) (H : wfM m → inR x2 → inR x3 → inR x4 → (x4 ≥ (m b1_ 0) → ((inR (x3 + 1)) ∧ (Wq l G false Y_Sand_calm d (QV P) 4 [(0, .inr (.inr a)), (1, .inr (.inr b1_)), (2, .inl x2), (3, .inl (x3 + 1))] [] m))) ∧ (¬ (x4 ≥ (m b1_ 0)) → ((0 ≤ x4 ∧ x4 < (5 : Int)) ∧ (((m (b1_ + 4) x4) ≤ 0 → ((inR (x4 + 1)) ∧ (Wq l G false Y_Sand_calm d (QV P) 19 [(0, .inr (.inr a)), (1, .inr (.inr b1_)), (2, .inl x2), (3, .inl x3), (4, .inl (x4 + 1))] [] m))) ∧ (¬ ((m (b1_ + 4) x4) ≤ 0) → ((0 ≤ x4 ∧ x4 < (5 : Int)) ∧ (((m (a + 1) x4) < (m (b1_ + 4) x4) → ((inR (x4 + 1)) ∧ (Wq l G false Y_Sand_calm d (QV P) 19 [(0, .inr (.inr a)), (1, .inr (.inr b1_)), (2, .inl x2), (3, .inl x3), (4, .inl (x4 + 1))] [] m))) ∧ (¬ ((m (a + 1) x4) < (m (b1_ + 4) x4)) → ((0 ≤ x4 ∧ x4 < (5 : Int)) ∧ ((0 < (m (b1_ + 4) x4)) ∧ (∃ (e30 : Nat) (P31 : MM → Prop), e30 < d ∧ CV l G Y_Sand_tip e30 [.inr (.inr a), .inr (.inr b1_), .inl x4, .inl (Int.tdiv (m (a + 1) x4) (m (b1_ + 4) x4))] m P31 ∧ (∀ m37, P31 m37 → wfM m37 → ((inR (x4 + 1)) ∧ (Wq l G false Y_Sand_calm d (QV P) 19 [(0, .inr (.inr a)), (1, .inr (.inr b1_)), (2, .inl 1), (3, .inl x3), (4, .inl (x4 + 1))] [] m37)))))))))))))) : Wq l G false Y_Sand_calm d (QV P) 19 [(0, .inr (.inr a)), (1, .inr (.inr b1_)), (2, .inl x2), (3, .inl x3), (4, .inl x4)] [] m := by
  refine Wp.wf (fun hw _ hl hs => ?_)
  have H0 := H hw (hl _ (List.mem_of_getElem? (i := 2) rfl)) (hl _ (List.mem_of_getElem? (i := 3) rfl)) (hl _ (List.mem_of_getElem? (i := 4) rfl))
  refine Wp.iload 4 4 d_Sand_calm_19 rfl ?_
  refine Wp.aload_n 1 1 d_Sand_calm_21 rfl rfl ?_
  refine Wq.getI 0 rfl d_Sand_calm_22 fl_Sand_26 (isB_lay hB1_) (Or.inl rfl) ?_
  obtain ⟨H2, H3⟩ := H0
  refine Wp.icmp_ge 79 d_Sand_calm_25 (by decide) (fun c1 => ?_) (fun c1 => ?_)
  · have H4 := H2 c1
    obtain ⟨s6, H7⟩ := H4
    refine Wp.iinc 3 3 [(0, .inr (.inr a)), (1, .inr (.inr b1_)), (2, .inl x2), (3, .inl (x3 + 1)), (4, .inl x4)] d_Sand_calm_79 rfl s6 (by decide) rfl ?_
    refine Wp.goto 4 d_Sand_calm_82 (by decide) ?_
    refine Wp.pick [0, 1, 2, 3] [(0, .inr (.inr a)), (1, .inr (.inr b1_)), (2, .inl x2), (3, .inl (x3 + 1))] rfl ?_
    exact H7
  · have H5 := H3 c1
    refine Wp.aload_n 1 1 d_Sand_calm_28 rfl rfl ?_
    refine Wp.getP (b1_ + 4) d_Sand_calm_29 fl_Sand_31 (isB_lay hB1_) rfl (isB_p8 hB1_) ?_
    refine Wp.iload 4 4 d_Sand_calm_32 rfl ?_
    obtain ⟨s8, H9⟩ := H5
    refine Wp.iald d_Sand_calm_34 (isB_l8 hB1_) (Or.inl rfl) s8.1 s8.2 ?_
    refine Wp.istore 5 [(0, .inr (.inr a)), (1, .inr (.inr b1_)), (2, .inl x2), (3, .inl x3), (4, .inl x4), (5, .inl (m (b1_ + 4) x4))] d_Sand_calm_35 (by decide) rfl ?_
    refine Wp.iload 5 5 d_Sand_calm_37 rfl ?_
    obtain ⟨H11, H12⟩ := H9
    refine Wp.if_le 73 d_Sand_calm_39 (by decide) (fun c10 => ?_) (fun c10 => ?_)
    · have H13 := H11 c10
      obtain ⟨s15, H16⟩ := H13
      refine Wp.iinc 4 4 [(0, .inr (.inr a)), (1, .inr (.inr b1_)), (2, .inl x2), (3, .inl x3), (4, .inl (x4 + 1)), (5, .inl (m (b1_ + 4) x4))] d_Sand_calm_73 rfl s15 (by decide) rfl ?_
      refine Wp.goto 19 d_Sand_calm_76 (by decide) ?_
      refine Wp.pick [0, 1, 2, 3, 4] [(0, .inr (.inr a)), (1, .inr (.inr b1_)), (2, .inl x2), (3, .inl x3), (4, .inl (x4 + 1))] rfl ?_
      exact H16
    · have H14 := H12 c10
      refine Wp.aload_n 0 0 d_Sand_calm_42 rfl rfl ?_
      refine Wp.getP (a + 1) d_Sand_calm_43 fl_Sand_9 (isS_lay ha) rfl (isS_p0 ha) ?_
      refine Wp.iload 4 4 d_Sand_calm_46 rfl ?_
      obtain ⟨s17, H18⟩ := H14
      refine Wp.iald d_Sand_calm_48 (isS_l0 ha) (Or.inl rfl) s17.1 s17.2 ?_
      refine Wp.iload 5 5 d_Sand_calm_49 rfl ?_
      obtain ⟨H20, H21⟩ := H18
      refine Wp.icmp_lt 73 d_Sand_calm_51 (by decide) (fun c19 => ?_) (fun c19 => ?_)
      · have H22 := H20 c19
        obtain ⟨s24, H25⟩ := H22
        refine Wp.iinc 4 4 [(0, .inr (.inr a)), (1, .inr (.inr b1_)), (2, .inl x2), (3, .inl x3), (4, .inl (x4 + 1)), (5, .inl (m (b1_ + 4) x4))] d_Sand_calm_73 rfl s24 (by decide) rfl ?_
        refine Wp.goto 19 d_Sand_calm_76 (by decide) ?_
        refine Wp.pick [0, 1, 2, 3, 4] [(0, .inr (.inr a)), (1, .inr (.inr b1_)), (2, .inl x2), (3, .inl x3), (4, .inl (x4 + 1))] rfl ?_
        exact H25
      · have H23 := H21 c19
        refine Wp.aload_n 0 0 d_Sand_calm_54 rfl rfl ?_
        refine Wp.aload_n 1 1 d_Sand_calm_55 rfl rfl ?_
        refine Wp.iload 4 4 d_Sand_calm_56 rfl ?_
        refine Wp.aload_n 0 0 d_Sand_calm_58 rfl rfl ?_
        refine Wp.getP (a + 1) d_Sand_calm_59 fl_Sand_9 (isS_lay ha) rfl (isS_p0 ha) ?_
        refine Wp.iload 4 4 d_Sand_calm_62 rfl ?_
        obtain ⟨s26, H27⟩ := H23
        refine Wp.iald d_Sand_calm_64 (isS_l0 ha) (Or.inl rfl) s26.1 s26.2 ?_
        refine Wp.iload 5 5 d_Sand_calm_65 rfl ?_
        obtain ⟨s28, H29⟩ := H27
        refine Wq.idiv d_Sand_calm_67 s28 ?_
        obtain ⟨e30, P31, hd32, ho33, H34⟩ := H29
        refine Wq.VV (st := []) [.inr (.inr b1_), .inl x4, .inl (Int.tdiv (m (a + 1) x4) (m (b1_ + 4) x4))] d_Sand_calm_68 k_Sand_tip ml_Sand_34 rfl (isS_lay ha) rfl (fun h => by cases h) (Nat.le_of_ble_eq_true rfl) hd32 ho33 (fun m37 hp38 hw40 => ?_)
        have H35 := H34 m37 hp38 hw40
        refine Wp.iconst d_Sand_calm_71 (by decide) ?_
        refine Wp.istore_n 2 [(0, .inr (.inr a)), (1, .inr (.inr b1_)), (2, .inl 1), (3, .inl x3), (4, .inl x4), (5, .inl (m (b1_ + 4) x4))] d_Sand_calm_72 rfl (by decide) rfl ?_
        obtain ⟨s41, H42⟩ := H35
        refine Wp.iinc 4 4 [(0, .inr (.inr a)), (1, .inr (.inr b1_)), (2, .inl 1), (3, .inl x3), (4, .inl (x4 + 1)), (5, .inl (m (b1_ + 4) x4))] d_Sand_calm_73 rfl s41 (by decide) rfl ?_
        refine Wp.goto 19 d_Sand_calm_76 (by decide) ?_
        refine Wp.pick [0, 1, 2, 3, 4] [(0, .inr (.inr a)), (1, .inr (.inr b1_)), (2, .inl 1), (3, .inl x3), (4, .inl (x4 + 1))] rfl ?_
        exact H42
theorem d_Sand_tip_0 : decode Y_Sand_tip.2.1 0 = .ok (.aload_n 1, 1) := by decide +kernel
theorem d_Sand_tip_1 : decode Y_Sand_tip.2.1 1 = .ok (.iload_n 2, 1) := by decide +kernel
theorem d_Sand_tip_2 : decode Y_Sand_tip.2.1 2 = .ok (.invokevirtual 38, 3) := by decide +kernel
theorem d_Sand_tip_5 : decode Y_Sand_tip.2.1 5 = .ok (.ifCond .ne 4, 3) := by decide +kernel
theorem d_Sand_tip_8 : decode Y_Sand_tip.2.1 8 = .ok (.return_, 1) := by decide +kernel
theorem d_Sand_tip_9 : decode Y_Sand_tip.2.1 9 = .ok (.aload_n 0, 1) := by decide +kernel
theorem d_Sand_tip_10 : decode Y_Sand_tip.2.1 10 = .ok (.getfield 9, 3) := by decide +kernel
theorem d_Sand_tip_13 : decode Y_Sand_tip.2.1 13 = .ok (.iload_n 2, 1) := by decide +kernel
theorem d_Sand_tip_14 : decode Y_Sand_tip.2.1 14 = .ok (.dup2, 1) := by decide +kernel
theorem d_Sand_tip_15 : decode Y_Sand_tip.2.1 15 = .ok (.iaload, 1) := by decide +kernel
theorem d_Sand_tip_16 : decode Y_Sand_tip.2.1 16 = .ok (.aload_n 1, 1) := by decide +kernel
theorem d_Sand_tip_17 : decode Y_Sand_tip.2.1 17 = .ok (.getfield 31, 3) := by decide +kernel
theorem d_Sand_tip_20 : decode Y_Sand_tip.2.1 20 = .ok (.iload_n 2, 1) := by decide +kernel
theorem d_Sand_tip_21 : decode Y_Sand_tip.2.1 21 = .ok (.iaload, 1) := by decide +kernel
theorem d_Sand_tip_22 : decode Y_Sand_tip.2.1 22 = .ok (.iload_n 3, 1) := by decide +kernel
theorem d_Sand_tip_23 : decode Y_Sand_tip.2.1 23 = .ok (.imul, 1) := by decide +kernel
theorem d_Sand_tip_24 : decode Y_Sand_tip.2.1 24 = .ok (.isub, 1) := by decide +kernel
theorem d_Sand_tip_25 : decode Y_Sand_tip.2.1 25 = .ok (.iastore, 1) := by decide +kernel
theorem d_Sand_tip_26 : decode Y_Sand_tip.2.1 26 = .ok (.iconst 0, 1) := by decide +kernel
theorem d_Sand_tip_27 : decode Y_Sand_tip.2.1 27 = .ok (.istore 4, 2) := by decide +kernel
theorem d_Sand_tip_29 : decode Y_Sand_tip.2.1 29 = .ok (.iload 4, 2) := by decide +kernel
theorem d_Sand_tip_31 : decode Y_Sand_tip.2.1 31 = .ok (.aload_n 1, 1) := by decide +kernel
theorem d_Sand_tip_32 : decode Y_Sand_tip.2.1 32 = .ok (.getfield 26, 3) := by decide +kernel
theorem d_Sand_tip_35 : decode Y_Sand_tip.2.1 35 = .ok (.if_icmp .ge 32, 3) := by decide +kernel
theorem d_Sand_tip_38 : decode Y_Sand_tip.2.1 38 = .ok (.aload_n 0, 1) := by decide +kernel
theorem d_Sand_tip_39 : decode Y_Sand_tip.2.1 39 = .ok (.getfield 9, 3) := by decide +kernel
theorem d_Sand_tip_42 : decode Y_Sand_tip.2.1 42 = .ok (.iload 4, 2) := by decide +kernel
theorem d_Sand_tip_44 : decode Y_Sand_tip.2.1 44 = .ok (.dup2, 1) := by decide +kernel
theorem d_Sand_tip_45 : decode Y_Sand_tip.2.1 45 = .ok (.iaload, 1) := by decide +kernel
theorem d_Sand_tip_46 : decode Y_Sand_tip.2.1 46 = .ok (.aload_n 1, 1) := by decide +kernel
theorem d_Sand_tip_47 : decode Y_Sand_tip.2.1 47 = .ok (.getfield 42, 3) := by decide +kernel
theorem d_Sand_tip_50 : decode Y_Sand_tip.2.1 50 = .ok (.iload_n 2, 1) := by decide +kernel
theorem d_Sand_tip_51 : decode Y_Sand_tip.2.1 51 = .ok (.iconst 5, 1) := by decide +kernel
theorem d_Sand_tip_52 : decode Y_Sand_tip.2.1 52 = .ok (.imul, 1) := by decide +kernel
theorem d_Sand_tip_53 : decode Y_Sand_tip.2.1 53 = .ok (.iload 4, 2) := by decide +kernel
theorem d_Sand_tip_55 : decode Y_Sand_tip.2.1 55 = .ok (.iadd, 1) := by decide +kernel
theorem d_Sand_tip_56 : decode Y_Sand_tip.2.1 56 = .ok (.iaload, 1) := by decide +kernel
theorem d_Sand_tip_57 : decode Y_Sand_tip.2.1 57 = .ok (.iload_n 3, 1) := by decide +kernel
theorem d_Sand_tip_58 : decode Y_Sand_tip.2.1 58 = .ok (.imul, 1) := by decide +kernel
theorem d_Sand_tip_59 : decode Y_Sand_tip.2.1 59 = .ok (.iadd, 1) := by decide +kernel
theorem d_Sand_tip_60 : decode Y_Sand_tip.2.1 60 = .ok (.iastore, 1) := by decide +kernel
theorem d_Sand_tip_61 : decode Y_Sand_tip.2.1 61 = .ok (.iinc 4 1, 3) := by decide +kernel
theorem d_Sand_tip_64 : decode Y_Sand_tip.2.1 64 = .ok (.goto (-35), 3) := by decide +kernel
theorem d_Sand_tip_67 : decode Y_Sand_tip.2.1 67 = .ok (.aload_n 0, 1) := by decide +kernel
theorem d_Sand_tip_68 : decode Y_Sand_tip.2.1 68 = .ok (.dup, 1) := by decide +kernel
theorem d_Sand_tip_69 : decode Y_Sand_tip.2.1 69 = .ok (.getfield 22, 3) := by decide +kernel
theorem d_Sand_tip_72 : decode Y_Sand_tip.2.1 72 = .ok (.aload_n 1, 1) := by decide +kernel
theorem d_Sand_tip_73 : decode Y_Sand_tip.2.1 73 = .ok (.getfield 45, 3) := by decide +kernel
theorem d_Sand_tip_76 : decode Y_Sand_tip.2.1 76 = .ok (.iload_n 2, 1) := by decide +kernel
theorem d_Sand_tip_77 : decode Y_Sand_tip.2.1 77 = .ok (.iaload, 1) := by decide +kernel
theorem d_Sand_tip_78 : decode Y_Sand_tip.2.1 78 = .ok (.iload_n 3, 1) := by decide +kernel
theorem d_Sand_tip_79 : decode Y_Sand_tip.2.1 79 = .ok (.imul, 1) := by decide +kernel
theorem d_Sand_tip_80 : decode Y_Sand_tip.2.1 80 = .ok (.iadd, 1) := by decide +kernel
theorem d_Sand_tip_81 : decode Y_Sand_tip.2.1 81 = .ok (.putfield 22, 3) := by decide +kernel
theorem d_Sand_tip_84 : decode Y_Sand_tip.2.1 84 = .ok (.aload_n 0, 1) := by decide +kernel
theorem d_Sand_tip_85 : decode Y_Sand_tip.2.1 85 = .ok (.getfield 15, 3) := by decide +kernel
theorem d_Sand_tip_88 : decode Y_Sand_tip.2.1 88 = .ok (.iload_n 2, 1) := by decide +kernel
theorem d_Sand_tip_89 : decode Y_Sand_tip.2.1 89 = .ok (.dup2, 1) := by decide +kernel
theorem d_Sand_tip_90 : decode Y_Sand_tip.2.1 90 = .ok (.iaload, 1) := by decide +kernel
theorem d_Sand_tip_91 : decode Y_Sand_tip.2.1 91 = .ok (.iload_n 3, 1) := by decide +kernel
theorem d_Sand_tip_92 : decode Y_Sand_tip.2.1 92 = .ok (.iadd, 1) := by decide +kernel
theorem d_Sand_tip_93 : decode Y_Sand_tip.2.1 93 = .ok (.iastore, 1) := by decide +kernel
theorem d_Sand_tip_94 : decode Y_Sand_tip.2.1 94 = .ok (.aload_n 0, 1) := by decide +kernel
theorem d_Sand_tip_95 : decode Y_Sand_tip.2.1 95 = .ok (.dup, 1) := by decide +kernel
theorem d_Sand_tip_96 : decode Y_Sand_tip.2.1 96 = .ok (.getfield 18, 3) := by decide +kernel
theorem d_Sand_tip_99 : decode Y_Sand_tip.2.1 99 = .ok (.iload_n 3, 1) := by decide +kernel
theorem d_Sand_tip_100 : decode Y_Sand_tip.2.1 100 = .ok (.iadd, 1) := by decide +kernel
theorem d_Sand_tip_101 : decode Y_Sand_tip.2.1 101 = .ok (.putfield 18, 3) := by decide +kernel
theorem d_Sand_tip_104 : decode Y_Sand_tip.2.1 104 = .ok (.return_, 1) := by decide +kernel
theorem e_Sand_tip {l : Launch} {G : GT} {d : Nat} {P : MM → Prop} {m : MM} (x2 : Int) (x3 : Int) (a : Nat) (b1_ : Nat) (ha : isS a) (hB1_ : isB b1_) (H : wfM m → inR x2 → inR x3 → ∃ (e1 : Nat) (P2 : Int → MM → Prop), e1 < d ∧ CI l G Y_Board_has e1 [.inr (.inr b1_), .inl x2] m P2 ∧ (∀ z7 m8, P2 z7 m8 → inR z7 → wfM m8 → ((z7 ≠ 0 → ((0 ≤ x2 ∧ x2 < (5 : Int)) ∧ ((0 ≤ x2 ∧ x2 < (5 : Int)) ∧ ((inR ((m8 (b1_ + 4) x2) * x3)) ∧ ((inR ((m8 (a + 1) x2) - ((m8 (b1_ + 4) x2) * x3))) ∧ ((0 ≤ x2 ∧ x2 < (5 : Int)) ∧ (∀ m25, m25 = up m8 (a + 1) x2 ((m8 (a + 1) x2) - ((m8 (b1_ + 4) x2) * x3)) → (Wq l G false Y_Sand_tip d (QV P) 29 [(0, .inr (.inr a)), (1, .inr (.inr b1_)), (2, .inl x2), (3, .inl x3), (4, .inl 0)] [] m25)))))))) ∧ (¬ (z7 ≠ 0) → (P m8))))) : CV l G Y_Sand_tip d [.inr (.inr a), .inr (.inr b1_), .inl x2, .inl x3] m P := by
  refine CV.of [(0, .inr (.inr a)), (1, .inr (.inr b1_)), (2, .inl x2), (3, .inl x3)] k_Sand_tip.1 (Nat.le_of_ble_eq_true rfl) rfl (Wp.wf (fun hw _ hl hs => ?_))
  have H0 := H hw (hl _ (List.mem_of_getElem? (i := 2) rfl)) (hl _ (List.mem_of_getElem? (i := 3) rfl))
  refine Wp.aload_n 1 1 d_Sand_tip_0 rfl rfl ?_
  refine Wp.iload_n 2 2 d_Sand_tip_1 rfl rfl ?_
  obtain ⟨e1, P2, hd3, ho4, H5⟩ := H0
  refine Wq.VI (st := []) [.inl x2] d_Sand_tip_2 k_Board_has ml_Sand_38 rfl (isB_lay hB1_) rfl (fun h => by cases h) (Nat.le_of_ble_eq_true rfl) hd3 ho4 (fun z7 m8 hp9 hz10 hw11 => ?_)
  have H6 := H5 z7 m8 hp9 hz10 hw11
  obtain ⟨H13, H14⟩ := H6
  refine Wp.if_ne 9 d_Sand_tip_5 (by decide) (fun c12 => ?_) (fun c12 => ?_)
  · have H15 := H13 c12
    refine Wp.aload_n 0 0 d_Sand_tip_9 rfl rfl ?_
    refine Wp.getP (a + 1) d_Sand_tip_10 fl_Sand_9 (isS_lay ha) rfl (isS_p0 ha) ?_
    refine Wp.iload_n 2 2 d_Sand_tip_13 rfl rfl ?_
    refine Wp.dup2 d_Sand_tip_14 rfl rfl ?_
    obtain ⟨s17, H18⟩ := H15
    refine Wp.iald d_Sand_tip_15 (isS_l0 ha) (Or.inl rfl) s17.1 s17.2 ?_
    refine Wp.aload_n 1 1 d_Sand_tip_16 rfl rfl ?_
    refine Wp.getP (b1_ + 4) d_Sand_tip_17 fl_Sand_31 (isB_lay hB1_) rfl (isB_p8 hB1_) ?_
    refine Wp.iload_n 2 2 d_Sand_tip_20 rfl rfl ?_
    obtain ⟨s19, H20⟩ := H18
    refine Wp.iald d_Sand_tip_21 (isB_l8 hB1_) (Or.inl rfl) s19.1 s19.2 ?_
    refine Wp.iload_n 3 3 d_Sand_tip_22 rfl rfl ?_
    obtain ⟨s21, H22⟩ := H20
    refine Wp.imul d_Sand_tip_23 s21 ?_
    obtain ⟨s23, H24⟩ := H22
    refine Wp.isub d_Sand_tip_24 s23 ?_
    obtain ⟨s30, H31⟩ := H24
    refine Wq.iast d_Sand_tip_25 (isS_l0 ha) s30.1 s30.2 (fun m25 hm26 => ?_)
    have H27 := H31 m25 hm26
    refine Wp.iconst d_Sand_tip_26 (by decide) ?_
    refine Wp.istore 4 [(0, .inr (.inr a)), (1, .inr (.inr b1_)), (2, .inl x2), (3, .inl x3), (4, .inl 0)] d_Sand_tip_27 (by decide) rfl ?_
    exact H27
  · have H16 := H14 c12
    exact Wq.vret d_Sand_tip_8 rfl H16
theorem s_Sand_tip_29 {l : Launch} {G : GT} {d : Nat} {P : MM → Prop} {m : MM} (x2 : Int) (x3 : Int) (x4 : Int) (a : Nat) (b1_ : Nat) (ha : isS a) (hB1_ : isB b1_) (H : wfM m → inR x2 → inR x3 → inR x4 → (x4 ≥ (m b1_ 0) → ((0 ≤ x2 ∧ x2 < (5 : Int)) ∧ ((inR ((m (b1_ + 3) x2) * x3)) ∧ ((inR ((m a 3) + ((m (b1_ + 3) x2) * x3))) ∧ (∀ m12, m12 = up m a 3 ((m a 3) + ((m (b1_ + 3) x2) * x3)) → ((0 ≤ x2 ∧ x2 < (5 : Int)) ∧ ((inR ((m12 (a + 2) x2) + x3)) ∧ ((0 ≤ x2 ∧ x2 < (5 : Int)) ∧ (∀ m19, m19 = up m12 (a + 2) x2 ((m12 (a + 2) x2) + x3) → ((inR ((m19 a 2) + x3)) ∧ (∀ m26, m26 = up m19 a 2 ((m19 a 2) + x3) → (P m26)))))))))))) ∧ (¬ (x4 ≥ (m b1_ 0)) → ((0 ≤ x4 ∧ x4 < (5 : Int)) ∧ ((inR (x2 * 5)) ∧ ((inR ((x2 * 5) + x4)) ∧ ((0 ≤ ((x2 * 5) + x4) ∧ ((x2 * 5) + x4) < (25 : Int)) ∧ ((inR ((m (b1_ + 2) ((x2 * 5) + x4)) * x3)) ∧ ((inR ((m (a + 1) x4) + ((m (b1_ + 2) ((x2 * 5) + x4)) * x3))) ∧ ((0 ≤ x4 ∧ x4 < (5 : Int)) ∧ (∀ m43, m43 = up m (a + 1) x4 ((m (a + 1) x4) + ((m (b1_ + 2) ((x2 * 5) + x4)) * x3)) → ((inR (x4 + 1)) ∧ (Wq l G false Y_Sand_tip d (QV P) 29 [(0, .inr (.inr a)), (1, .inr (.inr b1_)), (2, .inl x2), (3, .inl x3), (4, .inl (x4 + 1))] [] m43)))))))))))) : Wq l G false Y_Sand_tip d (QV P) 29 [(0, .inr (.inr a)), (1, .inr (.inr b1_)), (2, .inl x2), (3, .inl x3), (4, .inl x4)] [] m := by
  refine Wp.wf (fun hw _ hl hs => ?_)
  have H0 := H hw (hl _ (List.mem_of_getElem? (i := 2) rfl)) (hl _ (List.mem_of_getElem? (i := 3) rfl)) (hl _ (List.mem_of_getElem? (i := 4) rfl))
  refine Wp.iload 4 4 d_Sand_tip_29 rfl ?_
  refine Wp.aload_n 1 1 d_Sand_tip_31 rfl rfl ?_
  refine Wq.getI 0 rfl d_Sand_tip_32 fl_Sand_26 (isB_lay hB1_) (Or.inl rfl) ?_
  obtain ⟨H2, H3⟩ := H0
  refine Wp.icmp_ge 67 d_Sand_tip_35 (by decide) (fun c1 => ?_) (fun c1 => ?_)
  · have H4 := H2 c1
    refine Wp.aload_n 0 0 d_Sand_tip_67 rfl rfl ?_
    refine Wp.dup d_Sand_tip_68 rfl ?_
    refine Wq.getI 3 rfl d_Sand_tip_69 fl_Sand_22 (isS_lay ha) (Or.inl rfl) ?_
    refine Wp.aload_n 1 1 d_Sand_tip_72 rfl rfl ?_
    refine Wp.getP (b1_ + 3) d_Sand_tip_73 fl_Sand_45 (isB_lay hB1_) rfl (isB_p7 hB1_) ?_
    refine Wp.iload_n 2 2 d_Sand_tip_76 rfl rfl ?_
    obtain ⟨s6, H7⟩ := H4
    refine Wp.iald d_Sand_tip_77 (isB_l7 hB1_) (Or.inl rfl) s6.1 s6.2 ?_
    refine Wp.iload_n 3 3 d_Sand_tip_78 rfl rfl ?_
    obtain ⟨s8, H9⟩ := H7
    refine Wp.imul d_Sand_tip_79 s8 ?_
    obtain ⟨s10, H11⟩ := H9
    refine Wp.iadd d_Sand_tip_80 s10 ?_
    refine Wq.putI 3 rfl d_Sand_tip_81 fl_Sand_22 (fun _ _ _ h => by cases h; rfl) (isS_lay ha) (isS_n3 ha) rfl (fun m12 hm13 => ?_)
    have H14 := H11 m12 hm13
    refine Wp.aload_n 0 0 d_Sand_tip_84 rfl rfl ?_
    refine Wp.getP (a + 2) d_Sand_tip_85 fl_Sand_15 (isS_lay ha) rfl (isS_p1 ha) ?_
    refine Wp.iload_n 2 2 d_Sand_tip_88 rfl rfl ?_
    refine Wp.dup2 d_Sand_tip_89 rfl rfl ?_
    obtain ⟨s15, H16⟩ := H14
    refine Wp.iald d_Sand_tip_90 (isS_l1 ha) (Or.inl rfl) s15.1 s15.2 ?_
    refine Wp.iload_n 3 3 d_Sand_tip_91 rfl rfl ?_
    obtain ⟨s17, H18⟩ := H16
    refine Wp.iadd d_Sand_tip_92 s17 ?_
    obtain ⟨s29, H30⟩ := H18
    refine Wq.iast d_Sand_tip_93 (isS_l1 ha) s29.1 s29.2 (fun m19 hm20 => ?_)
    have H21 := H30 m19 hm20
    refine Wp.aload_n 0 0 d_Sand_tip_94 rfl rfl ?_
    refine Wp.dup d_Sand_tip_95 rfl ?_
    refine Wq.getI 2 rfl d_Sand_tip_96 fl_Sand_18 (isS_lay ha) (Or.inl rfl) ?_
    refine Wp.iload_n 3 3 d_Sand_tip_99 rfl rfl ?_
    obtain ⟨s24, H25⟩ := H21
    refine Wp.iadd d_Sand_tip_100 s24 ?_
    refine Wq.putI 2 rfl d_Sand_tip_101 fl_Sand_18 (fun _ _ _ h => by cases h; rfl) (isS_lay ha) (isS_n2 ha) rfl (fun m26 hm27 => ?_)
    have H28 := H25 m26 hm27
    exact Wq.vret d_Sand_tip_104 rfl H28
  · have H5 := H3 c1
    refine Wp.aload_n 0 0 d_Sand_tip_38 rfl rfl ?_
    refine Wp.getP (a + 1) d_Sand_tip_39 fl_Sand_9 (isS_lay ha) rfl (isS_p0 ha) ?_
    refine Wp.iload 4 4 d_Sand_tip_42 rfl ?_
    refine Wp.dup2 d_Sand_tip_44 rfl rfl ?_
    obtain ⟨s31, H32⟩ := H5
    refine Wp.iald d_Sand_tip_45 (isS_l0 ha) (Or.inl rfl) s31.1 s31.2 ?_
    refine Wp.aload_n 1 1 d_Sand_tip_46 rfl rfl ?_
    refine Wp.getP (b1_ + 2) d_Sand_tip_47 fl_Sand_42 (isB_lay hB1_) rfl (isB_p6 hB1_) ?_
    refine Wp.iload_n 2 2 d_Sand_tip_50 rfl rfl ?_
    refine Wp.iconst d_Sand_tip_51 (by decide) ?_
    obtain ⟨s33, H34⟩ := H32
    refine Wp.imul d_Sand_tip_52 s33 ?_
    refine Wp.iload 4 4 d_Sand_tip_53 rfl ?_
    obtain ⟨s35, H36⟩ := H34
    refine Wp.iadd d_Sand_tip_55 s35 ?_
    obtain ⟨s37, H38⟩ := H36
    refine Wp.iald d_Sand_tip_56 (isB_l6 hB1_) (Or.inl rfl) s37.1 s37.2 ?_
    refine Wp.iload_n 3 3 d_Sand_tip_57 rfl rfl ?_
    obtain ⟨s39, H40⟩ := H38
    refine Wp.imul d_Sand_tip_58 s39 ?_
    obtain ⟨s41, H42⟩ := H40
    refine Wp.iadd d_Sand_tip_59 s41 ?_
    obtain ⟨s50, H51⟩ := H42
    refine Wq.iast d_Sand_tip_60 (isS_l0 ha) s50.1 s50.2 (fun m43 hm44 => ?_)
    have H45 := H51 m43 hm44
    obtain ⟨s48, H49⟩ := H45
    refine Wp.iinc 4 4 [(0, .inr (.inr a)), (1, .inr (.inr b1_)), (2, .inl x2), (3, .inl x3), (4, .inl (x4 + 1))] d_Sand_tip_61 rfl s48 (by decide) rfl ?_
    refine Wp.goto 29 d_Sand_tip_64 (by decide) ?_
    exact H49
theorem d_Sand_put_0 : decode Y_Sand_put.2.1 0 = .ok (.iload_n 1, 1) := by decide +kernel
theorem d_Sand_put_1 : decode Y_Sand_put.2.1 1 = .ok (.ifCond .lt 18, 3) := by decide +kernel
theorem d_Sand_put_4 : decode Y_Sand_put.2.1 4 = .ok (.iload_n 1, 1) := by decide +kernel
theorem d_Sand_put_5 : decode Y_Sand_put.2.1 5 = .ok (.iconst 5, 1) := by decide +kernel
theorem d_Sand_put_6 : decode Y_Sand_put.2.1 6 = .ok (.if_icmp .ge 13, 3) := by decide +kernel
theorem d_Sand_put_9 : decode Y_Sand_put.2.1 9 = .ok (.aload_n 0, 1) := by decide +kernel
theorem d_Sand_put_10 : decode Y_Sand_put.2.1 10 = .ok (.getfield 9, 3) := by decide +kernel
theorem d_Sand_put_13 : decode Y_Sand_put.2.1 13 = .ok (.iload_n 1, 1) := by decide +kernel
theorem d_Sand_put_14 : decode Y_Sand_put.2.1 14 = .ok (.dup2, 1) := by decide +kernel
theorem d_Sand_put_15 : decode Y_Sand_put.2.1 15 = .ok (.iaload, 1) := by decide +kernel
theorem d_Sand_put_16 : decode Y_Sand_put.2.1 16 = .ok (.iload_n 2, 1) := by decide +kernel
theorem d_Sand_put_17 : decode Y_Sand_put.2.1 17 = .ok (.iadd, 1) := by decide +kernel
theorem d_Sand_put_18 : decode Y_Sand_put.2.1 18 = .ok (.iastore, 1) := by decide +kernel
theorem d_Sand_put_19 : decode Y_Sand_put.2.1 19 = .ok (.return_, 1) := by decide +kernel
theorem e_Sand_put {l : Launch} {G : GT} {d : Nat} {P : MM → Prop} {m : MM} (x1 : Int) (x2 : Int) (a : Nat) (ha : isS a) (H : wfM m → inR x1 → inR x2 → (x1 < 0 → (P m)) ∧ (¬ (x1 < 0) → ((x1 ≥ 5 → (P m)) ∧ (¬ (x1 ≥ 5) → ((0 ≤ x1 ∧ x1 < (5 : Int)) ∧ ((inR ((m (a + 1) x1) + x2)) ∧ ((0 ≤ x1 ∧ x1 < (5 : Int)) ∧ (∀ m15, m15 = up m (a + 1) x1 ((m (a + 1) x1) + x2) → (P m15))))))))) : CV l G Y_Sand_put d [.inr (.inr a), .inl x1, .inl x2] m P := by
  refine CV.of [(0, .inr (.inr a)), (1, .inl x1), (2, .inl x2)] k_Sand_put.1 (Nat.le_of_ble_eq_true rfl) rfl (Wp.wf (fun hw _ hl hs => ?_))
  have H0 := H hw (hl _ (List.mem_of_getElem? (i := 1) rfl)) (hl _ (List.mem_of_getElem? (i := 2) rfl))
  refine Wp.iload_n 1 1 d_Sand_put_0 rfl rfl ?_
  obtain ⟨H2, H3⟩ := H0
  refine Wp.if_lt 19 d_Sand_put_1 (by decide) (fun c1 => ?_) (fun c1 => ?_)
  · have H4 := H2 c1
    exact Wq.vret d_Sand_put_19 rfl H4
  · have H5 := H3 c1
    refine Wp.iload_n 1 1 d_Sand_put_4 rfl rfl ?_
    refine Wp.iconst d_Sand_put_5 (by decide) ?_
    obtain ⟨H7, H8⟩ := H5
    refine Wp.icmp_ge 19 d_Sand_put_6 (by decide) (fun c6 => ?_) (fun c6 => ?_)
    · have H9 := H7 c6
      exact Wq.vret d_Sand_put_19 rfl H9
    · have H10 := H8 c6
      refine Wp.aload_n 0 0 d_Sand_put_9 rfl rfl ?_
      refine Wp.getP (a + 1) d_Sand_put_10 fl_Sand_9 (isS_lay ha) rfl (isS_p0 ha) ?_
      refine Wp.iload_n 1 1 d_Sand_put_13 rfl rfl ?_
      refine Wp.dup2 d_Sand_put_14 rfl rfl ?_
      obtain ⟨s11, H12⟩ := H10
      refine Wp.iald d_Sand_put_15 (isS_l0 ha) (Or.inl rfl) s11.1 s11.2 ?_
      refine Wp.iload_n 2 2 d_Sand_put_16 rfl rfl ?_
      obtain ⟨s13, H14⟩ := H12
      refine Wp.iadd d_Sand_put_17 s13 ?_
      obtain ⟨s20, H21⟩ := H14
      refine Wq.iast d_Sand_put_18 (isS_l0 ha) s20.1 s20.2 (fun m15 hm16 => ?_)
      have H17 := H21 m15 hm16
      exact Wq.vret d_Sand_put_19 rfl H17
theorem d_Sand_toppled_0 : decode Y_Sand_toppled.2.1 0 = .ok (.iconst 0, 1) := by decide +kernel
theorem d_Sand_toppled_1 : decode Y_Sand_toppled.2.1 1 = .ok (.istore_n 2, 1) := by decide +kernel
theorem d_Sand_toppled_2 : decode Y_Sand_toppled.2.1 2 = .ok (.iconst 0, 1) := by decide +kernel
theorem d_Sand_toppled_3 : decode Y_Sand_toppled.2.1 3 = .ok (.istore_n 3, 1) := by decide +kernel
theorem d_Sand_toppled_4 : decode Y_Sand_toppled.2.1 4 = .ok (.iload_n 3, 1) := by decide +kernel
theorem d_Sand_toppled_5 : decode Y_Sand_toppled.2.1 5 = .ok (.iload_n 1, 1) := by decide +kernel
theorem d_Sand_toppled_6 : decode Y_Sand_toppled.2.1 6 = .ok (.if_icmp .ge 29, 3) := by decide +kernel
theorem d_Sand_toppled_9 : decode Y_Sand_toppled.2.1 9 = .ok (.iload_n 3, 1) := by decide +kernel
theorem d_Sand_toppled_10 : decode Y_Sand_toppled.2.1 10 = .ok (.iconst 5, 1) := by decide +kernel
theorem d_Sand_toppled_11 : decode Y_Sand_toppled.2.1 11 = .ok (.if_icmp .ge 24, 3) := by decide +kernel
theorem d_Sand_toppled_14 : decode Y_Sand_toppled.2.1 14 = .ok (.aload_n 0, 1) := by decide +kernel
theorem d_Sand_toppled_15 : decode Y_Sand_toppled.2.1 15 = .ok (.getfield 15, 3) := by decide +kernel
theorem d_Sand_toppled_18 : decode Y_Sand_toppled.2.1 18 = .ok (.iload_n 3, 1) := by decide +kernel
theorem d_Sand_toppled_19 : decode Y_Sand_toppled.2.1 19 = .ok (.iaload, 1) := by decide +kernel
theorem d_Sand_toppled_20 : decode Y_Sand_toppled.2.1 20 = .ok (.ifCond .le 9, 3) := by decide +kernel
theorem d_Sand_toppled_23 : decode Y_Sand_toppled.2.1 23 = .ok (.iload_n 2, 1) := by decide +kernel
theorem d_Sand_toppled_24 : decode Y_Sand_toppled.2.1 24 = .ok (.iconst 1, 1) := by decide +kernel
theorem d_Sand_toppled_25 : decode Y_Sand_toppled.2.1 25 = .ok (.iload_n 3, 1) := by decide +kernel
theorem d_Sand_toppled_26 : decode Y_Sand_toppled.2.1 26 = .ok (.ishl, 1) := by decide +kernel
theorem d_Sand_toppled_27 : decode Y_Sand_toppled.2.1 27 = .ok (.ior, 1) := by decide +kernel
theorem d_Sand_toppled_28 : decode Y_Sand_toppled.2.1 28 = .ok (.istore_n 2, 1) := by decide +kernel
theorem d_Sand_toppled_29 : decode Y_Sand_toppled.2.1 29 = .ok (.iinc 3 1, 3) := by decide +kernel
theorem d_Sand_toppled_32 : decode Y_Sand_toppled.2.1 32 = .ok (.goto (-28), 3) := by decide +kernel
theorem d_Sand_toppled_35 : decode Y_Sand_toppled.2.1 35 = .ok (.iload_n 2, 1) := by decide +kernel
theorem d_Sand_toppled_36 : decode Y_Sand_toppled.2.1 36 = .ok (.ireturn, 1) := by decide +kernel
theorem e_Sand_toppled {l : Launch} {G : GT} {d : Nat} {P : Int → MM → Prop} {m : MM} (x1 : Int) (a : Nat) (ha : isS a) (H : wfM m → inR x1 → Wq l G false Y_Sand_toppled d (QI P) 4 [(0, .inr (.inr a)), (1, .inl x1), (2, .inl 0), (3, .inl 0)] [] m) : CI l G Y_Sand_toppled d [.inr (.inr a), .inl x1] m P := by
  refine CI.of [(0, .inr (.inr a)), (1, .inl x1)] k_Sand_toppled.1 (Nat.le_of_ble_eq_true rfl) rfl (Wp.wf (fun hw _ hl hs => ?_))
  have H0 := H hw (hl _ (List.mem_of_getElem? (i := 1) rfl))
  refine Wp.iconst d_Sand_toppled_0 (by decide) ?_
  refine Wp.istore_n 2 [(0, .inr (.inr a)), (1, .inl x1), (2, .inl 0)] d_Sand_toppled_1 rfl (by decide) rfl ?_
  refine Wp.iconst d_Sand_toppled_2 (by decide) ?_
  refine Wp.istore_n 3 [(0, .inr (.inr a)), (1, .inl x1), (2, .inl 0), (3, .inl 0)] d_Sand_toppled_3 rfl (by decide) rfl ?_
  exact H0
theorem s_Sand_toppled_4 {l : Launch} {G : GT} {d : Nat} {P : Int → MM → Prop} {m : MM} (x1 : Int) (x2 : Int) (x3 : Int) (a : Nat) (ha : isS a) (H : wfM m → inR x1 → inR x2 → inR x3 → (x3 ≥ x1 → (P x2 m)) ∧ (¬ (x3 ≥ x1) → ((x3 ≥ 5 → (P x2 m)) ∧ (¬ (x3 ≥ 5) → ((0 ≤ x3 ∧ x3 < (5 : Int)) ∧ (((m (a + 2) x3) ≤ 0 → ((inR (x3 + 1)) ∧ (Wq l G false Y_Sand_toppled d (QI P) 4 [(0, .inr (.inr a)), (1, .inl x1), (2, .inl x2), (3, .inl (x3 + 1))] [] m))) ∧ (¬ ((m (a + 2) x3) ≤ 0) → ((inR (x3 + 1)) ∧ (Wq l G false Y_Sand_toppled d (QI P) 4 [(0, .inr (.inr a)), (1, .inl x1), (2, .inl (bOr x2 (bShl 1 x3))), (3, .inl (x3 + 1))] [] m))))))))) : Wq l G false Y_Sand_toppled d (QI P) 4 [(0, .inr (.inr a)), (1, .inl x1), (2, .inl x2), (3, .inl x3)] [] m := by
  refine Wp.wf (fun hw _ hl hs => ?_)
  have H0 := H hw (hl _ (List.mem_of_getElem? (i := 1) rfl)) (hl _ (List.mem_of_getElem? (i := 2) rfl)) (hl _ (List.mem_of_getElem? (i := 3) rfl))
  refine Wp.iload_n 3 3 d_Sand_toppled_4 rfl rfl ?_
  refine Wp.iload_n 1 1 d_Sand_toppled_5 rfl rfl ?_
  obtain ⟨H2, H3⟩ := H0
  refine Wp.icmp_ge 35 d_Sand_toppled_6 (by decide) (fun c1 => ?_) (fun c1 => ?_)
  · have H4 := H2 c1
    refine Wp.iload_n 2 2 d_Sand_toppled_35 rfl rfl ?_
    exact Wq.iret d_Sand_toppled_36 rfl H4
  · have H5 := H3 c1
    refine Wp.iload_n 3 3 d_Sand_toppled_9 rfl rfl ?_
    refine Wp.iconst d_Sand_toppled_10 (by decide) ?_
    obtain ⟨H7, H8⟩ := H5
    refine Wp.icmp_ge 35 d_Sand_toppled_11 (by decide) (fun c6 => ?_) (fun c6 => ?_)
    · have H9 := H7 c6
      refine Wp.iload_n 2 2 d_Sand_toppled_35 rfl rfl ?_
      exact Wq.iret d_Sand_toppled_36 rfl H9
    · have H10 := H8 c6
      refine Wp.aload_n 0 0 d_Sand_toppled_14 rfl rfl ?_
      refine Wp.getP (a + 2) d_Sand_toppled_15 fl_Sand_15 (isS_lay ha) rfl (isS_p1 ha) ?_
      refine Wp.iload_n 3 3 d_Sand_toppled_18 rfl rfl ?_
      obtain ⟨s11, H12⟩ := H10
      refine Wp.iald d_Sand_toppled_19 (isS_l1 ha) (Or.inl rfl) s11.1 s11.2 ?_
      obtain ⟨H14, H15⟩ := H12
      refine Wp.if_le 29 d_Sand_toppled_20 (by decide) (fun c13 => ?_) (fun c13 => ?_)
      · have H16 := H14 c13
        obtain ⟨s18, H19⟩ := H16
        refine Wp.iinc 3 3 [(0, .inr (.inr a)), (1, .inl x1), (2, .inl x2), (3, .inl (x3 + 1))] d_Sand_toppled_29 rfl s18 (by decide) rfl ?_
        refine Wp.goto 4 d_Sand_toppled_32 (by decide) ?_
        exact H19
      · have H17 := H15 c13
        refine Wp.iload_n 2 2 d_Sand_toppled_23 rfl rfl ?_
        refine Wp.iconst d_Sand_toppled_24 (by decide) ?_
        refine Wp.iload_n 3 3 d_Sand_toppled_25 rfl rfl ?_
        refine Wp.ishl d_Sand_toppled_26 ?_
        refine Wp.ior d_Sand_toppled_27 ?_
        refine Wp.istore_n 2 [(0, .inr (.inr a)), (1, .inl x1), (2, .inl (bOr x2 (bShl 1 x3))), (3, .inl x3)] d_Sand_toppled_28 rfl (by decide) rfl ?_
        obtain ⟨s20, H21⟩ := H17
        refine Wp.iinc 3 3 [(0, .inr (.inr a)), (1, .inl x1), (2, .inl (bOr x2 (bShl 1 x3))), (3, .inl (x3 + 1))] d_Sand_toppled_29 rfl s20 (by decide) rfl ?_
        refine Wp.goto 4 d_Sand_toppled_32 (by decide) ?_
        exact H21
