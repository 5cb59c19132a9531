theorem d_Tokens_start_0 : decode Y_Tokens_start.2.1 0 = .ok (.aload_n 0, 1) := by decide +kernel
theorem d_Tokens_start_1 : decode Y_Tokens_start.2.1 1 = .ok (.aload_n 1, 1) := by decide +kernel
theorem d_Tokens_start_2 : decode Y_Tokens_start.2.1 2 = .ok (.putfield 13, 3) := by decide +kernel
theorem d_Tokens_start_5 : decode Y_Tokens_start.2.1 5 = .ok (.aload_n 0, 1) := by decide +kernel
theorem d_Tokens_start_6 : decode Y_Tokens_start.2.1 6 = .ok (.iload_n 2, 1) := by decide +kernel
theorem d_Tokens_start_7 : decode Y_Tokens_start.2.1 7 = .ok (.aload_n 1, 1) := by decide +kernel
theorem d_Tokens_start_8 : decode Y_Tokens_start.2.1 8 = .ok (.arraylength, 1) := by decide +kernel
theorem d_Tokens_start_9 : decode Y_Tokens_start.2.1 9 = .ok (.invokestatic 31, 3) := by decide +kernel
theorem d_Tokens_start_12 : decode Y_Tokens_start.2.1 12 = .ok (.putfield 37, 3) := by decide +kernel
theorem d_Tokens_start_15 : decode Y_Tokens_start.2.1 15 = .ok (.aload_n 0, 1) := by decide +kernel
theorem d_Tokens_start_16 : decode Y_Tokens_start.2.1 16 = .ok (.iconst 0, 1) := by decide +kernel
theorem d_Tokens_start_17 : decode Y_Tokens_start.2.1 17 = .ok (.putfield 40, 3) := by decide +kernel
theorem d_Tokens_start_20 : decode Y_Tokens_start.2.1 20 = .ok (.aload_n 0, 1) := by decide +kernel
theorem d_Tokens_start_21 : decode Y_Tokens_start.2.1 21 = .ok (.invokevirtual 43, 3) := by decide +kernel
theorem d_Tokens_start_24 : decode Y_Tokens_start.2.1 24 = .ok (.return_, 1) := by decide +kernel
theorem e_Tokens_start {l : Launch} {G : GT} {d : Nat} {P : MM → Prop} {m : MM} (x2 : Int) (h1 : Nat) (n1 : Nat) (hl1 : q_lay h1 = .inr (0, n1)) (hlt_h1 : n1 < 2147483648) (hd1 : 1 ≤ d) (H : wfM m → inR x2 → ∀ m1, m1 = up m 3 1 h1 → ((0 < n1 ∧ n1 < 2147483648) ∧ (∀ m6, m6 = up m1 3 2 (min x2 (n1 : Int)) → (∀ m9, m9 = up m6 3 3 0 → (∃ (e12 : Nat) (P13 : MM → Prop), e12 < d ∧ CV l G Y_Tokens_next e12 [.inr (.inr 3)] m9 P13 ∧ (∀ m19, P13 m19 → wfM m19 → (P m19))))))) : CV l G Y_Tokens_start d [.inr (.inr 3), .inr (.inr h1), .inl x2] m P := by
  refine CV.of [(0, .inr (.inr 3)), (1, .inr (.inr h1)), (2, .inl x2)] k_Tokens_start.1 (Nat.le_of_ble_eq_true rfl) rfl (Wp.wf (fun hw _ hl hs => ?_))
  have H0 := H hw (hl _ (List.mem_of_getElem? (i := 2) rfl))
  refine Wp.aload_n 0 0 d_Tokens_start_0 rfl rfl ?_
  refine Wp.aload_n 1 1 d_Tokens_start_1 rfl rfl ?_
  refine Wq.putR 1 rfl d_Tokens_start_2 fl_Tokens_13 (fun _ _ _ h => by cases h; rfl) rfl rfl rfl (fun m1 hm2 => ?_)
  have H3 := H0 m1 hm2
  refine Wp.aload_n 0 0 d_Tokens_start_5 rfl rfl ?_
  refine Wp.iload_n 2 2 d_Tokens_start_6 rfl rfl ?_
  refine Wp.aload_n 1 1 d_Tokens_start_7 rfl rfl ?_
  obtain ⟨s4, H5⟩ := H3
  refine Wp.alen d_Tokens_start_8 hl1 (by decide) s4.1 s4.2 (Or.inl rfl) ?_
  refine Wp.mmin d_Tokens_start_9 ml_Tokens_31 k_mmin hd1 (Nat.le_of_ble_eq_true rfl) ?_
  refine Wq.putI 2 rfl d_Tokens_start_12 fl_Tokens_37 (fun _ _ _ h => by cases h; rfl) rfl rfl rfl (fun m6 hm7 => ?_)
  have H8 := H5 m6 hm7
  refine Wp.aload_n 0 0 d_Tokens_start_15 rfl rfl ?_
  refine Wp.iconst d_Tokens_start_16 (by decide) ?_
  refine Wq.putI 3 rfl d_Tokens_start_17 fl_Tokens_40 (fun _ _ _ h => by cases h; rfl) rfl rfl rfl (fun m9 hm10 => ?_)
  have H11 := H8 m9 hm10
  refine Wp.aload_n 0 0 d_Tokens_start_20 rfl rfl ?_
  obtain ⟨e12, P13, hd14, ho15, H16⟩ := H11
  refine Wq.VV (st := []) [] d_Tokens_start_21 k_Tokens_next ml_Tokens_43 rfl rfl rfl (fun h => by cases h) (Nat.le_of_ble_eq_true rfl) hd14 ho15 (fun m19 hp20 hw22 => ?_)
  have H17 := H16 m19 hp20 hw22
  exact Wq.vret d_Tokens_start_24 rfl H17
theorem d_Tokens_isLetter_0 : decode Y_Tokens_isLetter.2.1 0 = .ok (.iload_n 0, 1) := by decide +kernel
theorem d_Tokens_isLetter_1 : decode Y_Tokens_isLetter.2.1 1 = .ok (.bipush 97, 2) := by decide +kernel
theorem d_Tokens_isLetter_3 : decode Y_Tokens_isLetter.2.1 3 = .ok (.if_icmp .lt 13, 3) := by decide +kernel
theorem d_Tokens_isLetter_6 : decode Y_Tokens_isLetter.2.1 6 = .ok (.iload_n 0, 1) := by decide +kernel
theorem d_Tokens_isLetter_7 : decode Y_Tokens_isLetter.2.1 7 = .ok (.bipush 122, 2) := by decide +kernel
theorem d_Tokens_isLetter_9 : decode Y_Tokens_isLetter.2.1 9 = .ok (.if_icmp .gt 7, 3) := by decide +kernel
theorem d_Tokens_isLetter_12 : decode Y_Tokens_isLetter.2.1 12 = .ok (.iconst 1, 1) := by decide +kernel
theorem d_Tokens_isLetter_13 : decode Y_Tokens_isLetter.2.1 13 = .ok (.goto 4, 3) := by decide +kernel
theorem d_Tokens_isLetter_16 : decode Y_Tokens_isLetter.2.1 16 = .ok (.iconst 0, 1) := by decide +kernel
theorem d_Tokens_isLetter_17 : decode Y_Tokens_isLetter.2.1 17 = .ok (.ireturn, 1) := by decide +kernel
theorem e_Tokens_isLetter {l : Launch} {G : GT} {d : Nat} {P : Int → MM → Prop} {m : MM} (x0 : Int)  (H : wfM m → inR x0 → (x0 < 97 → (P 0 m)) ∧ (¬ (x0 < 97) → ((x0 > 122 → (P 0 m)) ∧ (¬ (x0 > 122) → (P 1 m))))) : CI l G Y_Tokens_isLetter d [.inl x0] m P := by
  refine CI.of [(0, .inl x0)] k_Tokens_isLetter.1 (Nat.le_of_ble_eq_true rfl) rfl (Wp.wf (fun hw _ hl hs => ?_))
  have H0 := H hw (hl _ (List.mem_of_getElem? (i := 0) rfl))
  refine Wp.iload_n 0 0 d_Tokens_isLetter_0 rfl rfl ?_
  refine Wp.bipush d_Tokens_isLetter_1 (by decide) (by decide) ?_
  obtain ⟨H2, H3⟩ := H0
  refine Wp.icmp_lt 16 d_Tokens_isLetter_3 (by decide) (fun c1 => ?_) (fun c1 => ?_)
  · have H4 := H2 c1
    refine Wp.iconst d_Tokens_isLetter_16 (by decide) ?_
    exact Wq.zret d_Tokens_isLetter_17 rfl (by decide) H4
  · have H5 := H3 c1
    refine Wp.iload_n 0 0 d_Tokens_isLetter_6 rfl rfl ?_
    refine Wp.bipush d_Tokens_isLetter_7 (by decide) (by decide) ?_
    obtain ⟨H7, H8⟩ := H5
    refine Wp.icmp_gt 16 d_Tokens_isLetter_9 (by decide) (fun c6 => ?_) (fun c6 => ?_)
    · have H9 := H7 c6
      refine Wp.iconst d_Tokens_isLetter_16 (by decide) ?_
      exact Wq.zret d_Tokens_isLetter_17 rfl (by decide) H9
    · have H10 := H8 c6
      refine Wp.iconst d_Tokens_isLetter_12 (by decide) ?_
      refine Wp.goto 17 d_Tokens_isLetter_13 (by decide) ?_
      exact Wq.zret d_Tokens_isLetter_17 rfl (by decide) H10
theorem d_Tokens_readWord_0 : decode Y_Tokens_readWord.2.1 0 = .ok (.aload_n 0, 1) := by decide +kernel
theorem d_Tokens_readWord_1 : decode Y_Tokens_readWord.2.1 1 = .ok (.getfield 40, 3) := by decide +kernel
theorem d_Tokens_readWord_4 : decode Y_Tokens_readWord.2.1 4 = .ok (.aload_n 0, 1) := by decide +kernel
theorem d_Tokens_readWord_5 : decode Y_Tokens_readWord.2.1 5 = .ok (.getfield 37, 3) := by decide +kernel
theorem d_Tokens_readWord_8 : decode Y_Tokens_readWord.2.1 8 = .ok (.if_icmp .ge 59, 3) := by decide +kernel
theorem d_Tokens_readWord_11 : decode Y_Tokens_readWord.2.1 11 = .ok (.aload_n 0, 1) := by decide +kernel
theorem d_Tokens_readWord_12 : decode Y_Tokens_readWord.2.1 12 = .ok (.getfield 13, 3) := by decide +kernel
theorem d_Tokens_readWord_15 : decode Y_Tokens_readWord.2.1 15 = .ok (.aload_n 0, 1) := by decide +kernel
theorem d_Tokens_readWord_16 : decode Y_Tokens_readWord.2.1 16 = .ok (.getfield 40, 3) := by decide +kernel
theorem d_Tokens_readWord_19 : decode Y_Tokens_readWord.2.1 19 = .ok (.iaload, 1) := by decide +kernel
theorem d_Tokens_readWord_20 : decode Y_Tokens_readWord.2.1 20 = .ok (.invokestatic 56, 3) := by decide +kernel
theorem d_Tokens_readWord_23 : decode Y_Tokens_readWord.2.1 23 = .ok (.ifCond .eq 44, 3) := by decide +kernel
theorem d_Tokens_readWord_26 : decode Y_Tokens_readWord.2.1 26 = .ok (.aload_n 0, 1) := by decide +kernel
theorem d_Tokens_readWord_27 : decode Y_Tokens_readWord.2.1 27 = .ok (.aload_n 0, 1) := by decide +kernel
theorem d_Tokens_readWord_28 : decode Y_Tokens_readWord.2.1 28 = .ok (.getfield 49, 3) := by decide +kernel
theorem d_Tokens_readWord_31 : decode Y_Tokens_readWord.2.1 31 = .ok (.ldc2_w 29, 3) := by decide +kernel
theorem d_Tokens_readWord_34 : decode Y_Tokens_readWord.2.1 34 = .ok (.lmul, 1) := by decide +kernel
theorem d_Tokens_readWord_35 : decode Y_Tokens_readWord.2.1 35 = .ok (.aload_n 0, 1) := by decide +kernel
theorem d_Tokens_readWord_36 : decode Y_Tokens_readWord.2.1 36 = .ok (.getfield 13, 3) := by decide +kernel
theorem d_Tokens_readWord_39 : decode Y_Tokens_readWord.2.1 39 = .ok (.aload_n 0, 1) := by decide +kernel
theorem d_Tokens_readWord_40 : decode Y_Tokens_readWord.2.1 40 = .ok (.getfield 40, 3) := by decide +kernel
theorem d_Tokens_readWord_43 : decode Y_Tokens_readWord.2.1 43 = .ok (.iaload, 1) := by decide +kernel
theorem d_Tokens_readWord_44 : decode Y_Tokens_readWord.2.1 44 = .ok (.bipush 97, 2) := by decide +kernel
theorem d_Tokens_readWord_46 : decode Y_Tokens_readWord.2.1 46 = .ok (.isub, 1) := by decide +kernel
theorem d_Tokens_readWord_47 : decode Y_Tokens_readWord.2.1 47 = .ok (.iconst 1, 1) := by decide +kernel
theorem d_Tokens_readWord_48 : decode Y_Tokens_readWord.2.1 48 = .ok (.iadd, 1) := by decide +kernel
theorem d_Tokens_readWord_49 : decode Y_Tokens_readWord.2.1 49 = .ok (.i2l, 1) := by decide +kernel
theorem d_Tokens_readWord_50 : decode Y_Tokens_readWord.2.1 50 = .ok (.ladd, 1) := by decide +kernel
theorem d_Tokens_readWord_51 : decode Y_Tokens_readWord.2.1 51 = .ok (.putfield 49, 3) := by decide +kernel
theorem d_Tokens_readWord_54 : decode Y_Tokens_readWord.2.1 54 = .ok (.aload_n 0, 1) := by decide +kernel
theorem d_Tokens_readWord_55 : decode Y_Tokens_readWord.2.1 55 = .ok (.dup, 1) := by decide +kernel
theorem d_Tokens_readWord_56 : decode Y_Tokens_readWord.2.1 56 = .ok (.getfield 40, 3) := by decide +kernel
theorem d_Tokens_readWord_59 : decode Y_Tokens_readWord.2.1 59 = .ok (.iconst 1, 1) := by decide +kernel
theorem d_Tokens_readWord_60 : decode Y_Tokens_readWord.2.1 60 = .ok (.iadd, 1) := by decide +kernel
theorem d_Tokens_readWord_61 : decode Y_Tokens_readWord.2.1 61 = .ok (.putfield 40, 3) := by decide +kernel
theorem d_Tokens_readWord_64 : decode Y_Tokens_readWord.2.1 64 = .ok (.goto (-64), 3) := by decide +kernel
theorem d_Tokens_readWord_67 : decode Y_Tokens_readWord.2.1 67 = .ok (.aload_n 0, 1) := by decide +kernel
theorem d_Tokens_readWord_68 : decode Y_Tokens_readWord.2.1 68 = .ok (.aload_n 0, 1) := by decide +kernel
theorem d_Tokens_readWord_69 : decode Y_Tokens_readWord.2.1 69 = .ok (.getfield 40, 3) := by decide +kernel
theorem d_Tokens_readWord_72 : decode Y_Tokens_readWord.2.1 72 = .ok (.aload_n 0, 1) := by decide +kernel
theorem d_Tokens_readWord_73 : decode Y_Tokens_readWord.2.1 73 = .ok (.getfield 46, 3) := by decide +kernel
theorem d_Tokens_readWord_76 : decode Y_Tokens_readWord.2.1 76 = .ok (.isub, 1) := by decide +kernel
theorem d_Tokens_readWord_77 : decode Y_Tokens_readWord.2.1 77 = .ok (.bipush 8, 2) := by decide +kernel
theorem d_Tokens_readWord_79 : decode Y_Tokens_readWord.2.1 79 = .ok (.if_icmp .le 7, 3) := by decide +kernel
theorem d_Tokens_readWord_82 : decode Y_Tokens_readWord.2.1 82 = .ok (.iconst 1, 1) := by decide +kernel
theorem d_Tokens_readWord_83 : decode Y_Tokens_readWord.2.1 83 = .ok (.goto 11, 3) := by decide +kernel
theorem d_Tokens_readWord_86 : decode Y_Tokens_readWord.2.1 86 = .ok (.aload_n 0, 1) := by decide +kernel
theorem d_Tokens_readWord_87 : decode Y_Tokens_readWord.2.1 87 = .ok (.aload_n 0, 1) := by decide +kernel
theorem d_Tokens_readWord_88 : decode Y_Tokens_readWord.2.1 88 = .ok (.getfield 49, 3) := by decide +kernel
theorem d_Tokens_readWord_91 : decode Y_Tokens_readWord.2.1 91 = .ok (.invokevirtual 75, 3) := by decide +kernel
theorem d_Tokens_readWord_94 : decode Y_Tokens_readWord.2.1 94 = .ok (.putfield 53, 3) := by decide +kernel
theorem d_Tokens_readWord_97 : decode Y_Tokens_readWord.2.1 97 = .ok (.return_, 1) := by decide +kernel
theorem e_Tokens_readWord {l : Launch} {G : GT} {d : Nat} {P : MM → Prop} {m : MM}   (H : wfM m → ((m 3 3) ≥ (m 3 2) → (((w32 ((m 3 3) - (m 3 5))) ≤ 8 → (∃ (e11 : Nat) (P12 : Int → MM → Prop), e11 < d ∧ CI l G Y_Tokens_kindOfWord e11 [.inr (.inr 3), .inr (.inl (m 3 6))] m P12 ∧ (∀ z17 m18, P12 z17 m18 → inR z17 → wfM m18 → (∀ m22, m22 = up m18 3 4 z17 → (P m22))))) ∧ (¬ ((w32 ((m 3 3) - (m 3 5))) ≤ 8) → (∀ m25, m25 = up m 3 4 1 → (P m25))))) ∧ (¬ ((m 3 3) ≥ (m 3 2)) → (∃ b28 n32 : Nat, m 3 1 = b28 ∧ q_lay b28 = .inr (0, n32) ∧ ((0 ≤ (m 3 3) ∧ (m 3 3) < (n32 : Int)) ∧ (∃ (e35 : Nat) (P36 : Int → MM → Prop), e35 < d ∧ CI l G Y_Tokens_isLetter e35 [.inl (m b28 (m 3 3))] m P36 ∧ (∀ z41 m42, P36 z41 m42 → inR z41 → wfM m42 → ((z41 = 0 → (((w32 ((m42 3 3) - (m42 3 5))) ≤ 8 → (∃ (e56 : Nat) (P57 : Int → MM → Prop), e56 < d ∧ CI l G Y_Tokens_kindOfWord e56 [.inr (.inr 3), .inr (.inl (m42 3 6))] m42 P57 ∧ (∀ z62 m63, P57 z62 m63 → inR z62 → wfM m63 → (∀ m67, m67 = up m63 3 4 z62 → (P m67))))) ∧ (¬ ((w32 ((m42 3 3) - (m42 3 5))) ≤ 8) → (∀ m70, m70 = up m42 3 4 1 → (P m70))))) ∧ (¬ (z41 = 0) → (∃ b73 n77 : Nat, m42 3 1 = b73 ∧ q_lay b73 = .inr (0, n77) ∧ ((0 ≤ (m42 3 3) ∧ (m42 3 3) < (n77 : Int)) ∧ (∀ m80, m80 = up m42 3 6 (w64 ((w64 ((m42 3 6) * 32)) + (w32 ((w32 ((m42 b73 (m42 3 3)) - 97)) + 1)))) → (∀ m83, m83 = up m80 3 3 (w32 ((m80 3 3) + 1)) → (Wq l G false Y_Tokens_readWord d (QV P) 0 [(0, .inr (.inr 3))] [] m83))))))))))))) : CV l G Y_Tokens_readWord d [.inr (.inr 3)] m P := by
  refine CV.of [(0, .inr (.inr 3))] k_Tokens_readWord.1 (Nat.le_of_ble_eq_true rfl) rfl (Wp.wf (fun hw _ hl hs => ?_))
  have H0 := H hw
  refine Wp.aload_n 0 0 d_Tokens_readWord_0 rfl rfl ?_
  refine Wq.getI 3 rfl d_Tokens_readWord_1 fl_Tokens_40 rfl (Or.inl rfl) ?_
  refine Wp.aload_n 0 0 d_Tokens_readWord_4 rfl rfl ?_
  refine Wq.getI 2 rfl d_Tokens_readWord_5 fl_Tokens_37 rfl (Or.inl rfl) ?_
  obtain ⟨H2, H3⟩ := H0
  refine Wp.icmp_ge 67 d_Tokens_readWord_8 (by decide) (fun c1 => ?_) (fun c1 => ?_)
  · have H4 := H2 c1
    refine Wp.aload_n 0 0 d_Tokens_readWord_67 rfl rfl ?_
    refine Wp.aload_n 0 0 d_Tokens_readWord_68 rfl rfl ?_
    refine Wq.getI 3 rfl d_Tokens_readWord_69 fl_Tokens_40 rfl (Or.inl rfl) ?_
    refine Wp.aload_n 0 0 d_Tokens_readWord_72 rfl rfl ?_
    refine Wq.getI 5 rfl d_Tokens_readWord_73 fl_Tokens_46 rfl (Or.inl rfl) ?_
    refine Wp.isubw d_Tokens_readWord_76 ?_
    refine Wp.bipush d_Tokens_readWord_77 (by decide) (by decide) ?_
    obtain ⟨H7, H8⟩ := H4
    refine Wp.icmp_le 86 d_Tokens_readWord_79 (by decide) (fun c6 => ?_) (fun c6 => ?_)
    · have H9 := H7 c6
      refine Wp.aload_n 0 0 d_Tokens_readWord_86 rfl rfl ?_
      refine Wp.aload_n 0 0 d_Tokens_readWord_87 rfl rfl ?_
      refine Wq.getL 6 rfl d_Tokens_readWord_88 fl_Tokens_49 rfl rfl ?_
      obtain ⟨e11, P12, hd13, ho14, H15⟩ := H9
      refine Wq.VI (st := [.inr (.inr 3)]) [.inr (.inl (m 3 6))] d_Tokens_readWord_91 k_Tokens_kindOfWord ml_Tokens_75 rfl rfl rfl (fun h => by cases h) (Nat.le_of_ble_eq_true rfl) hd13 ho14 (fun z17 m18 hp19 hz20 hw21 => ?_)
      have H16 := H15 z17 m18 hp19 hz20 hw21
      refine Wq.putI 4 rfl d_Tokens_readWord_94 fl_Tokens_53 (fun _ _ _ h => by cases h; rfl) rfl rfl rfl (fun m22 hm23 => ?_)
      have H24 := H16 m22 hm23
      exact Wq.vret d_Tokens_readWord_97 rfl H24
    · have H10 := H8 c6
      refine Wp.iconst d_Tokens_readWord_82 (by decide) ?_
      refine Wp.goto 94 d_Tokens_readWord_83 (by decide) ?_
      refine Wq.putI 4 rfl d_Tokens_readWord_94 fl_Tokens_53 (fun _ _ _ h => by cases h; rfl) rfl rfl rfl (fun m25 hm26 => ?_)
      have H27 := H10 m25 hm26
      exact Wq.vret d_Tokens_readWord_97 rfl H27
  · have H5 := H3 c1
    refine Wp.aload_n 0 0 d_Tokens_readWord_11 rfl rfl ?_
    obtain ⟨b28, n32, hb29, hB30, H31⟩ := H5
    refine Wp.getR b28 d_Tokens_readWord_12 fl_Tokens_13 rfl (Or.inl rfl) rfl hb29 ?_
    refine Wp.aload_n 0 0 d_Tokens_readWord_15 rfl rfl ?_
    refine Wq.getI 3 rfl d_Tokens_readWord_16 fl_Tokens_40 rfl (Or.inl rfl) ?_
    obtain ⟨s33, H34⟩ := H31
    refine Wp.iald d_Tokens_readWord_19 hB30 (Or.inl rfl) s33.1 s33.2 ?_
    obtain ⟨e35, P36, hd37, ho38, H39⟩ := H34
    refine Wq.SI (st := []) [.inl (m b28 (m 3 3))] d_Tokens_readWord_20 k_Tokens_isLetter ml_Tokens_56 rfl  (fun h => by cases h) (Nat.le_of_ble_eq_true rfl) hd37 ho38 (fun z41 m42 hp43 hz44 hw45 => ?_)
    have H40 := H39 z41 m42 hp43 hz44 hw45
    obtain ⟨H47, H48⟩ := H40
    refine Wp.if_eq 67 d_Tokens_readWord_23 (by decide) (fun c46 => ?_) (fun c46 => ?_)
    · have H49 := H47 c46
      refine Wp.aload_n 0 0 d_Tokens_readWord_67 rfl rfl ?_
      refine Wp.aload_n 0 0 d_Tokens_readWord_68 rfl rfl ?_
      refine Wq.getI 3 rfl d_Tokens_readWord_69 fl_Tokens_40 rfl (Or.inl rfl) ?_
      refine Wp.aload_n 0 0 d_Tokens_readWord_72 rfl rfl ?_
      refine Wq.getI 5 rfl d_Tokens_readWord_73 fl_Tokens_46 rfl (Or.inl rfl) ?_
      refine Wp.isubw d_Tokens_readWord_76 ?_
      refine Wp.bipush d_Tokens_readWord_77 (by decide) (by decide) ?_
      obtain ⟨H52, H53⟩ := H49
      refine Wp.icmp_le 86 d_Tokens_readWord_79 (by decide) (fun c51 => ?_) (fun c51 => ?_)
      · have H54 := H52 c51
        refine Wp.aload_n 0 0 d_Tokens_readWord_86 rfl rfl ?_
        refine Wp.aload_n 0 0 d_Tokens_readWord_87 rfl rfl ?_
        refine Wq.getL 6 rfl d_Tokens_readWord_88 fl_Tokens_49 rfl rfl ?_
        obtain ⟨e56, P57, hd58, ho59, H60⟩ := H54
        refine Wq.VI (st := [.inr (.inr 3)]) [.inr (.inl (m42 3 6))] d_Tokens_readWord_91 k_Tokens_kindOfWord ml_Tokens_75 rfl rfl rfl (fun h => by cases h) (Nat.le_of_ble_eq_true rfl) hd58 ho59 (fun z62 m63 hp64 hz65 hw66 => ?_)
        have H61 := H60 z62 m63 hp64 hz65 hw66
        refine Wq.putI 4 rfl d_Tokens_readWord_94 fl_Tokens_53 (fun _ _ _ h => by cases h; rfl) rfl rfl rfl (fun m67 hm68 => ?_)
        have H69 := H61 m67 hm68
        exact Wq.vret d_Tokens_readWord_97 rfl H69
      · have H55 := H53 c51
        refine Wp.iconst d_Tokens_readWord_82 (by decide) ?_
        refine Wp.goto 94 d_Tokens_readWord_83 (by decide) ?_
        refine Wq.putI 4 rfl d_Tokens_readWord_94 fl_Tokens_53 (fun _ _ _ h => by cases h; rfl) rfl rfl rfl (fun m70 hm71 => ?_)
        have H72 := H55 m70 hm71
        exact Wq.vret d_Tokens_readWord_97 rfl H72
    · have H50 := H48 c46
      refine Wp.aload_n 0 0 d_Tokens_readWord_26 rfl rfl ?_
      refine Wp.aload_n 0 0 d_Tokens_readWord_27 rfl rfl ?_
      refine Wq.getL 6 rfl d_Tokens_readWord_28 fl_Tokens_49 rfl rfl ?_
      refine Wp.ldc2 (z := 32) d_Tokens_readWord_31 kl_Tokens_29 (by decide) (by decide) ?_
      refine Wp.lmul d_Tokens_readWord_34 ?_
      refine Wp.aload_n 0 0 d_Tokens_readWord_35 rfl rfl ?_
      obtain ⟨b73, n77, hb74, hB75, H76⟩ := H50
      refine Wp.getR b73 d_Tokens_readWord_36 fl_Tokens_13 rfl (Or.inl rfl) rfl hb74 ?_
      refine Wp.aload_n 0 0 d_Tokens_readWord_39 rfl rfl ?_
      refine Wq.getI 3 rfl d_Tokens_readWord_40 fl_Tokens_40 rfl (Or.inl rfl) ?_
      obtain ⟨s78, H79⟩ := H76
      refine Wp.iald d_Tokens_readWord_43 hB75 (Or.inl rfl) s78.1 s78.2 ?_
      refine Wp.bipush d_Tokens_readWord_44 (by decide) (by decide) ?_
      refine Wp.isubw d_Tokens_readWord_46 ?_
      refine Wp.iconst d_Tokens_readWord_47 (by decide) ?_
      refine Wp.iaddw d_Tokens_readWord_48 ?_
      refine Wp.i2l d_Tokens_readWord_49 ?_
      refine Wp.ladd d_Tokens_readWord_50 ?_
      refine Wq.putL 6 rfl d_Tokens_readWord_51 fl_Tokens_49 (fun _ _ _ h => by cases h; rfl) rfl rfl rfl (fun m80 hm81 => ?_)
      have H82 := H79 m80 hm81
      refine Wp.aload_n 0 0 d_Tokens_readWord_54 rfl rfl ?_
      refine Wp.dup d_Tokens_readWord_55 rfl ?_
      refine Wq.getI 3 rfl d_Tokens_readWord_56 fl_Tokens_40 rfl (Or.inl rfl) ?_
      refine Wp.iconst d_Tokens_readWord_59 (by decide) ?_
      refine Wp.iaddw d_Tokens_readWord_60 ?_
      refine Wq.putI 3 rfl d_Tokens_readWord_61 fl_Tokens_40 (fun _ _ _ h => by cases h; rfl) rfl rfl rfl (fun m83 hm84 => ?_)
      have H85 := H82 m83 hm84
      refine Wp.goto 0 d_Tokens_readWord_64 (by decide) ?_
      exact H85
theorem s_Tokens_readWord_0 {l : Launch} {G : GT} {d : Nat} {P : MM → Prop} {m : MM}   (H : wfM m → ((m 3 3) ≥ (m 3 2) → (((w32 ((m 3 3) - (m 3 5))) ≤ 8 → (∃ (e11 : Nat) (P12 : Int → MM → Prop), e11 < d ∧ CI l G Y_Tokens_kindOfWord e11 [.inr (.inr 3), .inr (.inl (m 3 6))] m P12 ∧ (∀ z17 m18, P12 z17 m18 → inR z17 → wfM m18 → (∀ m22, m22 = up m18 3 4 z17 → (P m22))))) ∧ (¬ ((w32 ((m 3 3) - (m 3 5))) ≤ 8) → (∀ m25, m25 = up m 3 4 1 → (P m25))))) ∧ (¬ ((m 3 3) ≥ (m 3 2)) → (∃ b28 n32 : Nat, m 3 1 = b28 ∧ q_lay b28 = .inr (0, n32) ∧ ((0 ≤ (m 3 3) ∧ (m 3 3) < (n32 : Int)) ∧ (∃ (e35 : Nat) (P36 : Int → MM → Prop), e35 < d ∧ CI l G Y_Tokens_isLetter e35 [.inl (m b28 (m 3 3))] m P36 ∧ (∀ z41 m42, P36 z41 m42 → inR z41 → wfM m42 → ((z41 = 0 → (((w32 ((m42 3 3) - (m42 3 5))) ≤ 8 → (∃ (e56 : Nat) (P57 : Int → MM → Prop), e56 < d ∧ CI l G Y_Tokens_kindOfWord e56 [.inr (.inr 3), .inr (.inl (m42 3 6))] m42 P57 ∧ (∀ z62 m63, P57 z62 m63 → inR z62 → wfM m63 → (∀ m67, m67 = up m63 3 4 z62 → (P m67))))) ∧ (¬ ((w32 ((m42 3 3) - (m42 3 5))) ≤ 8) → (∀ m70, m70 = up m42 3 4 1 → (P m70))))) ∧ (¬ (z41 = 0) → (∃ b73 n77 : Nat, m42 3 1 = b73 ∧ q_lay b73 = .inr (0, n77) ∧ ((0 ≤ (m42 3 3) ∧ (m42 3 3) < (n77 : Int)) ∧ (∀ m80, m80 = up m42 3 6 (w64 ((w64 ((m42 3 6) * 32)) + (w32 ((w32 ((m42 b73 (m42 3 3)) - 97)) + 1)))) → (∀ m83, m83 = up m80 3 3 (w32 ((m80 3 3) + 1)) → (Wq l G false Y_Tokens_readWord d (QV P) 0 [(0, .inr (.inr 3))] [] m83))))))))))))) : Wq l G false Y_Tokens_readWord d (QV P) 0 [(0, .inr (.inr 3))] [] m := by
  refine Wp.wf (fun hw _ hl hs => ?_)
  have H0 := H hw
  refine Wp.aload_n 0 0 d_Tokens_readWord_0 rfl rfl ?_
  refine Wq.getI 3 rfl d_Tokens_readWord_1 fl_Tokens_40 rfl (Or.inl rfl) ?_
  refine Wp.aload_n 0 0 d_Tokens_readWord_4 rfl rfl ?_
  refine Wq.getI 2 rfl d_Tokens_readWord_5 fl_Tokens_37 rfl (Or.inl rfl) ?_
  obtain ⟨H2, H3⟩ := H0
  refine Wp.icmp_ge 67 d_Tokens_readWord_8 (by decide) (fun c1 => ?_) (fun c1 => ?_)
  · have H4 := H2 c1
    refine Wp.aload_n 0 0 d_Tokens_readWord_67 rfl rfl ?_
    refine Wp.aload_n 0 0 d_Tokens_readWord_68 rfl rfl ?_
    refine Wq.getI 3 rfl d_Tokens_readWord_69 fl_Tokens_40 rfl (Or.inl rfl) ?_
    refine Wp.aload_n 0 0 d_Tokens_readWord_72 rfl rfl ?_
    refine Wq.getI 5 rfl d_Tokens_readWord_73 fl_Tokens_46 rfl (Or.inl rfl) ?_
    refine Wp.isubw d_Tokens_readWord_76 ?_
    refine Wp.bipush d_Tokens_readWord_77 (by decide) (by decide) ?_
    obtain ⟨H7, H8⟩ := H4
    refine Wp.icmp_le 86 d_Tokens_readWord_79 (by decide) (fun c6 => ?_) (fun c6 => ?_)
    · have H9 := H7 c6
      refine Wp.aload_n 0 0 d_Tokens_readWord_86 rfl rfl ?_
      refine Wp.aload_n 0 0 d_Tokens_readWord_87 rfl rfl ?_
      refine Wq.getL 6 rfl d_Tokens_readWord_88 fl_Tokens_49 rfl rfl ?_
      obtain ⟨e11, P12, hd13, ho14, H15⟩ := H9
      refine Wq.VI (st := [.inr (.inr 3)]) [.inr (.inl (m 3 6))] d_Tokens_readWord_91 k_Tokens_kindOfWord ml_Tokens_75 rfl rfl rfl (fun h => by cases h) (Nat.le_of_ble_eq_true rfl) hd13 ho14 (fun z17 m18 hp19 hz20 hw21 => ?_)
      have H16 := H15 z17 m18 hp19 hz20 hw21
      refine Wq.putI 4 rfl d_Tokens_readWord_94 fl_Tokens_53 (fun _ _ _ h => by cases h; rfl) rfl rfl rfl (fun m22 hm23 => ?_)
      have H24 := H16 m22 hm23
      exact Wq.vret d_Tokens_readWord_97 rfl H24
    · have H10 := H8 c6
      refine Wp.iconst d_Tokens_readWord_82 (by decide) ?_
      refine Wp.goto 94 d_Tokens_readWord_83 (by decide) ?_
      refine Wq.putI 4 rfl d_Tokens_readWord_94 fl_Tokens_53 (fun _ _ _ h => by cases h; rfl) rfl rfl rfl (fun m25 hm26 => ?_)
      have H27 := H10 m25 hm26
      exact Wq.vret d_Tokens_readWord_97 rfl H27
  · have H5 := H3 c1
    refine Wp.aload_n 0 0 d_Tokens_readWord_11 rfl rfl ?_
    obtain ⟨b28, n32, hb29, hB30, H31⟩ := H5
    refine Wp.getR b28 d_Tokens_readWord_12 fl_Tokens_13 rfl (Or.inl rfl) rfl hb29 ?_
    refine Wp.aload_n 0 0 d_Tokens_readWord_15 rfl rfl ?_
    refine Wq.getI 3 rfl d_Tokens_readWord_16 fl_Tokens_40 rfl (Or.inl rfl) ?_
    obtain ⟨s33, H34⟩ := H31
    refine Wp.iald d_Tokens_readWord_19 hB30 (Or.inl rfl) s33.1 s33.2 ?_
    obtain ⟨e35, P36, hd37, ho38, H39⟩ := H34
    refine Wq.SI (st := []) [.inl (m b28 (m 3 3))] d_Tokens_readWord_20 k_Tokens_isLetter ml_Tokens_56 rfl  (fun h => by cases h) (Nat.le_of_ble_eq_true rfl) hd37 ho38 (fun z41 m42 hp43 hz44 hw45 => ?_)
    have H40 := H39 z41 m42 hp43 hz44 hw45
    obtain ⟨H47, H48⟩ := H40
    refine Wp.if_eq 67 d_Tokens_readWord_23 (by decide) (fun c46 => ?_) (fun c46 => ?_)
    · have H49 := H47 c46
      refine Wp.aload_n 0 0 d_Tokens_readWord_67 rfl rfl ?_
      refine Wp.aload_n 0 0 d_Tokens_readWord_68 rfl rfl ?_
      refine Wq.getI 3 rfl d_Tokens_readWord_69 fl_Tokens_40 rfl (Or.inl rfl) ?_
      refine Wp.aload_n 0 0 d_Tokens_readWord_72 rfl rfl ?_
      refine Wq.getI 5 rfl d_Tokens_readWord_73 fl_Tokens_46 rfl (Or.inl rfl) ?_
      refine Wp.isubw d_Tokens_readWord_76 ?_
      refine Wp.bipush d_Tokens_readWord_77 (by decide) (by decide) ?_
      obtain ⟨H52, H53⟩ := H49
      refine Wp.icmp_le 86 d_Tokens_readWord_79 (by decide) (fun c51 => ?_) (fun c51 => ?_)
      · have H54 := H52 c51
        refine Wp.aload_n 0 0 d_Tokens_readWord_86 rfl rfl ?_
        refine Wp.aload_n 0 0 d_Tokens_readWord_87 rfl rfl ?_
        refine Wq.getL 6 rfl d_Tokens_readWord_88 fl_Tokens_49 rfl rfl ?_
        obtain ⟨e56, P57, hd58, ho59, H60⟩ := H54
        refine Wq.VI (st := [.inr (.inr 3)]) [.inr (.inl (m42 3 6))] d_Tokens_readWord_91 k_Tokens_kindOfWord ml_Tokens_75 rfl rfl rfl (fun h => by cases h) (Nat.le_of_ble_eq_true rfl) hd58 ho59 (fun z62 m63 hp64 hz65 hw66 => ?_)
        have H61 := H60 z62 m63 hp64 hz65 hw66
        refine Wq.putI 4 rfl d_Tokens_readWord_94 fl_Tokens_53 (fun _ _ _ h => by cases h; rfl) rfl rfl rfl (fun m67 hm68 => ?_)
        have H69 := H61 m67 hm68
        exact Wq.vret d_Tokens_readWord_97 rfl H69
      · have H55 := H53 c51
        refine Wp.iconst d_Tokens_readWord_82 (by decide) ?_
        refine Wp.goto 94 d_Tokens_readWord_83 (by decide) ?_
        refine Wq.putI 4 rfl d_Tokens_readWord_94 fl_Tokens_53 (fun _ _ _ h => by cases h; rfl) rfl rfl rfl (fun m70 hm71 => ?_)
        have H72 := H55 m70 hm71
        exact Wq.vret d_Tokens_readWord_97 rfl H72
    · have H50 := H48 c46
      refine Wp.aload_n 0 0 d_Tokens_readWord_26 rfl rfl ?_
      refine Wp.aload_n 0 0 d_Tokens_readWord_27 rfl rfl ?_
      refine Wq.getL 6 rfl d_Tokens_readWord_28 fl_Tokens_49 rfl rfl ?_
      refine Wp.ldc2 (z := 32) d_Tokens_readWord_31 kl_Tokens_29 (by decide) (by decide) ?_
      refine Wp.lmul d_Tokens_readWord_34 ?_
      refine Wp.aload_n 0 0 d_Tokens_readWord_35 rfl rfl ?_
      obtain ⟨b73, n77, hb74, hB75, H76⟩ := H50
      refine Wp.getR b73 d_Tokens_readWord_36 fl_Tokens_13 rfl (Or.inl rfl) rfl hb74 ?_
      refine Wp.aload_n 0 0 d_Tokens_readWord_39 rfl rfl ?_
      refine Wq.getI 3 rfl d_Tokens_readWord_40 fl_Tokens_40 rfl (Or.inl rfl) ?_
      obtain ⟨s78, H79⟩ := H76
      refine Wp.iald d_Tokens_readWord_43 hB75 (Or.inl rfl) s78.1 s78.2 ?_
      refine Wp.bipush d_Tokens_readWord_44 (by decide) (by decide) ?_
      refine Wp.isubw d_Tokens_readWord_46 ?_
      refine Wp.iconst d_Tokens_readWord_47 (by decide) ?_
      refine Wp.iaddw d_Tokens_readWord_48 ?_
      refine Wp.i2l d_Tokens_readWord_49 ?_
      refine Wp.ladd d_Tokens_readWord_50 ?_
      refine Wq.putL 6 rfl d_Tokens_readWord_51 fl_Tokens_49 (fun _ _ _ h => by cases h; rfl) rfl rfl rfl (fun m80 hm81 => ?_)
      have H82 := H79 m80 hm81
      refine Wp.aload_n 0 0 d_Tokens_readWord_54 rfl rfl ?_
      refine Wp.dup d_Tokens_readWord_55 rfl ?_
      refine Wq.getI 3 rfl d_Tokens_readWord_56 fl_Tokens_40 rfl (Or.inl rfl) ?_
      refine Wp.iconst d_Tokens_readWord_59 (by decide) ?_
      refine Wp.iaddw d_Tokens_readWord_60 ?_
      refine Wq.putI 3 rfl d_Tokens_readWord_61 fl_Tokens_40 (fun _ _ _ h => by cases h; rfl) rfl rfl rfl (fun m83 hm84 => ?_)
      have H85 := H82 m83 hm84
      refine Wp.goto 0 d_Tokens_readWord_64 (by decide) ?_
      exact H85
theorem d_Tokens_kindOfWord_0 : decode Y_Tokens_kindOfWord.2.1 0 = .ok (.iconst 0, 1) := by decide +kernel
theorem d_Tokens_kindOfWord_1 : decode Y_Tokens_kindOfWord.2.1 1 = .ok (.istore_n 3, 1) := by decide +kernel
theorem d_Tokens_kindOfWord_2 : decode Y_Tokens_kindOfWord.2.1 2 = .ok (.iload_n 3, 1) := by decide +kernel
theorem d_Tokens_kindOfWord_3 : decode Y_Tokens_kindOfWord.2.1 3 = .ok (.bipush 15, 2) := by decide +kernel
theorem d_Tokens_kindOfWord_5 : decode Y_Tokens_kindOfWord.2.1 5 = .ok (.if_icmp .ge 25, 3) := by decide +kernel
theorem d_Tokens_kindOfWord_8 : decode Y_Tokens_kindOfWord.2.1 8 = .ok (.aload_n 0, 1) := by decide +kernel
theorem d_Tokens_kindOfWord_9 : decode Y_Tokens_kindOfWord.2.1 9 = .ok (.getfield 9, 3) := by decide +kernel
theorem d_Tokens_kindOfWord_12 : decode Y_Tokens_kindOfWord.2.1 12 = .ok (.iload_n 3, 1) := by decide +kernel
theorem d_Tokens_kindOfWord_13 : decode Y_Tokens_kindOfWord.2.1 13 = .ok (.laload, 1) := by decide +kernel
theorem d_Tokens_kindOfWord_14 : decode Y_Tokens_kindOfWord.2.1 14 = .ok (.lload_n 1, 1) := by decide +kernel
theorem d_Tokens_kindOfWord_15 : decode Y_Tokens_kindOfWord.2.1 15 = .ok (.lcmp, 1) := by decide +kernel
theorem d_Tokens_kindOfWord_16 : decode Y_Tokens_kindOfWord.2.1 16 = .ok (.ifCond .ne 8, 3) := by decide +kernel
theorem d_Tokens_kindOfWord_19 : decode Y_Tokens_kindOfWord.2.1 19 = .ok (.bipush 100, 2) := by decide +kernel
theorem d_Tokens_kindOfWord_21 : decode Y_Tokens_kindOfWord.2.1 21 = .ok (.iload_n 3, 1) := by decide +kernel
theorem d_Tokens_kindOfWord_22 : decode Y_Tokens_kindOfWord.2.1 22 = .ok (.iadd, 1) := by decide +kernel
theorem d_Tokens_kindOfWord_23 : decode Y_Tokens_kindOfWord.2.1 23 = .ok (.ireturn, 1) := by decide +kernel
theorem d_Tokens_kindOfWord_24 : decode Y_Tokens_kindOfWord.2.1 24 = .ok (.iinc 3 1, 3) := by decide +kernel
theorem d_Tokens_kindOfWord_27 : decode Y_Tokens_kindOfWord.2.1 27 = .ok (.goto (-25), 3) := by decide +kernel
theorem d_Tokens_kindOfWord_30 : decode Y_Tokens_kindOfWord.2.1 30 = .ok (.iconst 2, 1) := by decide +kernel
theorem d_Tokens_kindOfWord_31 : decode Y_Tokens_kindOfWord.2.1 31 = .ok (.ireturn, 1) := by decide +kernel
theorem e_Tokens_kindOfWord {l : Launch} {G : GT} {d : Nat} {P : Int → MM → Prop} {m : MM} (x1 : Int)  (H : wfM m → inL x1 → Wq l G false Y_Tokens_kindOfWord d (QI P) 2 [(0, .inr (.inr 3)), (1, .inr (.inl x1)), (3, .inl 0)] [] m) : CI l G Y_Tokens_kindOfWord d [.inr (.inr 3), .inr (.inl x1)] m P := by
  refine CI.of [(0, .inr (.inr 3)), (1, .inr (.inl x1))] k_Tokens_kindOfWord.1 (Nat.le_of_ble_eq_true rfl) rfl (Wp.wf (fun hw _ hl hs => ?_))
  have H0 := H hw (hl _ (List.mem_of_getElem? (i := 1) rfl))
  refine Wp.iconst d_Tokens_kindOfWord_0 (by decide) ?_
  refine Wp.istore_n 3 [(0, .inr (.inr 3)), (1, .inr (.inl x1)), (3, .inl 0)] d_Tokens_kindOfWord_1 rfl (by decide) rfl ?_
  exact H0
theorem s_Tokens_kindOfWord_2 {l : Launch} {G : GT} {d : Nat} {P : Int → MM → Prop} {m : MM} (x1 : Int) (x3 : Int)  (H : wfM m → inL x1 → inR x3 → (x3 ≥ 15 → (P 2 m)) ∧ (¬ (x3 ≥ 15) → ((0 ≤ x3 ∧ x3 < (15 : Int)) ∧ (((m 4 x3) ≠ x1 → ((inR (x3 + 1)) ∧ (Wq l G false Y_Tokens_kindOfWord d (QI P) 2 [(0, .inr (.inr 3)), (1, .inr (.inl x1)), (3, .inl (x3 + 1))] [] m))) ∧ (¬ ((m 4 x3) ≠ x1) → (P (w32 (100 + x3)) m)))))) : Wq l G false Y_Tokens_kindOfWord d (QI P) 2 [(0, .inr (.inr 3)), (1, .inr (.inl x1)), (3, .inl x3)] [] m := by
  refine Wp.wf (fun hw _ hl hs => ?_)
  have H0 := H hw (hl _ (List.mem_of_getElem? (i := 1) rfl)) (hl _ (List.mem_of_getElem? (i := 2) rfl))
  refine Wp.iload_n 2 3 d_Tokens_kindOfWord_2 rfl rfl ?_
  refine Wp.bipush d_Tokens_kindOfWord_3 (by decide) (by decide) ?_
  obtain ⟨H2, H3⟩ := H0
  refine Wp.icmp_ge 30 d_Tokens_kindOfWord_5 (by decide) (fun c1 => ?_) (fun c1 => ?_)
  · have H4 := H2 c1
    refine Wp.iconst d_Tokens_kindOfWord_30 (by decide) ?_
    exact Wq.iret d_Tokens_kindOfWord_31 rfl H4
  · have H5 := H3 c1
    refine Wp.aload_n 0 0 d_Tokens_kindOfWord_8 rfl rfl ?_
    refine Wp.getP 4 d_Tokens_kindOfWord_9 fl_Tokens_9 rfl rfl rfl ?_
    refine Wp.iload_n 2 3 d_Tokens_kindOfWord_12 rfl rfl ?_
    obtain ⟨s6, H7⟩ := H5
    refine Wp.lald d_Tokens_kindOfWord_13 rfl (Or.inl rfl) s6.1 s6.2 ?_
    refine Wp.lload_n 1 1 d_Tokens_kindOfWord_14 rfl rfl ?_
    obtain ⟨H9, H10⟩ := H7
    refine Wq.lif_ne 24 d_Tokens_kindOfWord_15 d_Tokens_kindOfWord_16 (by decide) (fun c8 => ?_) (fun c8 => ?_)
    · have H11 := H9 c8
      obtain ⟨s13, H14⟩ := H11
      refine Wp.iinc 2 3 [(0, .inr (.inr 3)), (1, .inr (.inl x1)), (3, .inl (x3 + 1))] d_Tokens_kindOfWord_24 rfl s13 (by decide) rfl ?_
      refine Wp.goto 2 d_Tokens_kindOfWord_27 (by decide) ?_
      exact H14
    · have H12 := H10 c8
      refine Wp.bipush d_Tokens_kindOfWord_19 (by decide) (by decide) ?_
      refine Wp.iload_n 2 3 d_Tokens_kindOfWord_21 rfl rfl ?_
      refine Wp.iaddw d_Tokens_kindOfWord_22 ?_
      exact Wq.iret d_Tokens_kindOfWord_23 rfl H12
theorem d_Tokens_isDigit_0 : decode Y_Tokens_isDigit.2.1 0 = .ok (.iload_n 0, 1) := by decide +kernel
theorem d_Tokens_isDigit_1 : decode Y_Tokens_isDigit.2.1 1 = .ok (.bipush 48, 2) := by decide +kernel
theorem d_Tokens_isDigit_3 : decode Y_Tokens_isDigit.2.1 3 = .ok (.if_icmp .lt 13, 3) := by decide +kernel
theorem d_Tokens_isDigit_6 : decode Y_Tokens_isDigit.2.1 6 = .ok (.iload_n 0, 1) := by decide +kernel
theorem d_Tokens_isDigit_7 : decode Y_Tokens_isDigit.2.1 7 = .ok (.bipush 57, 2) := by decide +kernel
theorem d_Tokens_isDigit_9 : decode Y_Tokens_isDigit.2.1 9 = .ok (.if_icmp .gt 7, 3) := by decide +kernel
theorem d_Tokens_isDigit_12 : decode Y_Tokens_isDigit.2.1 12 = .ok (.iconst 1, 1) := by decide +kernel
theorem d_Tokens_isDigit_13 : decode Y_Tokens_isDigit.2.1 13 = .ok (.goto 4, 3) := by decide +kernel
theorem d_Tokens_isDigit_16 : decode Y_Tokens_isDigit.2.1 16 = .ok (.iconst 0, 1) := by decide +kernel
theorem d_Tokens_isDigit_17 : decode Y_Tokens_isDigit.2.1 17 = .ok (.ireturn, 1) := by decide +kernel
theorem e_Tokens_isDigit {l : Launch} {G : GT} {d : Nat} {P : Int → MM → Prop} {m : MM} (x0 : Int)  (H : wfM m → inR x0 → (x0 < 48 → (P 0 m)) ∧ (¬ (x0 < 48) → ((x0 > 57 → (P 0 m)) ∧ (¬ (x0 > 57) → (P 1 m))))) : CI l G Y_Tokens_isDigit d [.inl x0] m P := by
  refine CI.of [(0, .inl x0)] k_Tokens_isDigit.1 (Nat.le_of_ble_eq_true rfl) rfl (Wp.wf (fun hw _ hl hs => ?_))
  have H0 := H hw (hl _ (List.mem_of_getElem? (i := 0) rfl))
  refine Wp.iload_n 0 0 d_Tokens_isDigit_0 rfl rfl ?_
  refine Wp.bipush d_Tokens_isDigit_1 (by decide) (by decide) ?_
  obtain ⟨H2, H3⟩ := H0
  refine Wp.icmp_lt 16 d_Tokens_isDigit_3 (by decide) (fun c1 => ?_) (fun c1 => ?_)
  · have H4 := H2 c1
    refine Wp.iconst d_Tokens_isDigit_16 (by decide) ?_
    exact Wq.zret d_Tokens_isDigit_17 rfl (by decide) H4
  · have H5 := H3 c1
    refine Wp.iload_n 0 0 d_Tokens_isDigit_6 rfl rfl ?_
    refine Wp.bipush d_Tokens_isDigit_7 (by decide) (by decide) ?_
    obtain ⟨H7, H8⟩ := H5
    refine Wp.icmp_gt 16 d_Tokens_isDigit_9 (by decide) (fun c6 => ?_) (fun c6 => ?_)
    · have H9 := H7 c6
      refine Wp.iconst d_Tokens_isDigit_16 (by decide) ?_
      exact Wq.zret d_Tokens_isDigit_17 rfl (by decide) H9
    · have H10 := H8 c6
      refine Wp.iconst d_Tokens_isDigit_12 (by decide) ?_
      refine Wp.goto 17 d_Tokens_isDigit_13 (by decide) ?_
      exact Wq.zret d_Tokens_isDigit_17 rfl (by decide) H10
theorem d_Tokens_readNumber_0 : decode Y_Tokens_readNumber.2.1 0 = .ok (.aload_n 0, 1) := by decide +kernel
theorem d_Tokens_readNumber_1 : decode Y_Tokens_readNumber.2.1 1 = .ok (.getfield 40, 3) := by decide +kernel
theorem d_Tokens_readNumber_4 : decode Y_Tokens_readNumber.2.1 4 = .ok (.aload_n 0, 1) := by decide +kernel
theorem d_Tokens_readNumber_5 : decode Y_Tokens_readNumber.2.1 5 = .ok (.getfield 37, 3) := by decide +kernel
theorem d_Tokens_readNumber_8 : decode Y_Tokens_readNumber.2.1 8 = .ok (.if_icmp .ge 57, 3) := by decide +kernel
theorem d_Tokens_readNumber_11 : decode Y_Tokens_readNumber.2.1 11 = .ok (.aload_n 0, 1) := by decide +kernel
theorem d_Tokens_readNumber_12 : decode Y_Tokens_readNumber.2.1 12 = .ok (.getfield 13, 3) := by decide +kernel
theorem d_Tokens_readNumber_15 : decode Y_Tokens_readNumber.2.1 15 = .ok (.aload_n 0, 1) := by decide +kernel
theorem d_Tokens_readNumber_16 : decode Y_Tokens_readNumber.2.1 16 = .ok (.getfield 40, 3) := by decide +kernel
theorem d_Tokens_readNumber_19 : decode Y_Tokens_readNumber.2.1 19 = .ok (.iaload, 1) := by decide +kernel
theorem d_Tokens_readNumber_20 : decode Y_Tokens_readNumber.2.1 20 = .ok (.invokestatic 63, 3) := by decide +kernel
theorem d_Tokens_readNumber_23 : decode Y_Tokens_readNumber.2.1 23 = .ok (.ifCond .eq 42, 3) := by decide +kernel
theorem d_Tokens_readNumber_26 : decode Y_Tokens_readNumber.2.1 26 = .ok (.aload_n 0, 1) := by decide +kernel
theorem d_Tokens_readNumber_27 : decode Y_Tokens_readNumber.2.1 27 = .ok (.aload_n 0, 1) := by decide +kernel
theorem d_Tokens_readNumber_28 : decode Y_Tokens_readNumber.2.1 28 = .ok (.getfield 49, 3) := by decide +kernel
theorem d_Tokens_readNumber_31 : decode Y_Tokens_readNumber.2.1 31 = .ok (.ldc2_w 79, 3) := by decide +kernel
theorem d_Tokens_readNumber_34 : decode Y_Tokens_readNumber.2.1 34 = .ok (.lmul, 1) := by decide +kernel
theorem d_Tokens_readNumber_35 : decode Y_Tokens_readNumber.2.1 35 = .ok (.aload_n 0, 1) := by decide +kernel
theorem d_Tokens_readNumber_36 : decode Y_Tokens_readNumber.2.1 36 = .ok (.getfield 13, 3) := by decide +kernel
theorem d_Tokens_readNumber_39 : decode Y_Tokens_readNumber.2.1 39 = .ok (.aload_n 0, 1) := by decide +kernel
theorem d_Tokens_readNumber_40 : decode Y_Tokens_readNumber.2.1 40 = .ok (.getfield 40, 3) := by decide +kernel
theorem d_Tokens_readNumber_43 : decode Y_Tokens_readNumber.2.1 43 = .ok (.iaload, 1) := by decide +kernel
theorem d_Tokens_readNumber_44 : decode Y_Tokens_readNumber.2.1 44 = .ok (.bipush 48, 2) := by decide +kernel
theorem d_Tokens_readNumber_46 : decode Y_Tokens_readNumber.2.1 46 = .ok (.isub, 1) := by decide +kernel
theorem d_Tokens_readNumber_47 : decode Y_Tokens_readNumber.2.1 47 = .ok (.i2l, 1) := by decide +kernel
theorem d_Tokens_readNumber_48 : decode Y_Tokens_readNumber.2.1 48 = .ok (.ladd, 1) := by decide +kernel
theorem d_Tokens_readNumber_49 : decode Y_Tokens_readNumber.2.1 49 = .ok (.putfield 49, 3) := by decide +kernel
theorem d_Tokens_readNumber_52 : decode Y_Tokens_readNumber.2.1 52 = .ok (.aload_n 0, 1) := by decide +kernel
theorem d_Tokens_readNumber_53 : decode Y_Tokens_readNumber.2.1 53 = .ok (.dup, 1) := by decide +kernel
theorem d_Tokens_readNumber_54 : decode Y_Tokens_readNumber.2.1 54 = .ok (.getfield 40, 3) := by decide +kernel
theorem d_Tokens_readNumber_57 : decode Y_Tokens_readNumber.2.1 57 = .ok (.iconst 1, 1) := by decide +kernel
theorem d_Tokens_readNumber_58 : decode Y_Tokens_readNumber.2.1 58 = .ok (.iadd, 1) := by decide +kernel
theorem d_Tokens_readNumber_59 : decode Y_Tokens_readNumber.2.1 59 = .ok (.putfield 40, 3) := by decide +kernel
theorem d_Tokens_readNumber_62 : decode Y_Tokens_readNumber.2.1 62 = .ok (.goto (-62), 3) := by decide +kernel
theorem d_Tokens_readNumber_65 : decode Y_Tokens_readNumber.2.1 65 = .ok (.aload_n 0, 1) := by decide +kernel
theorem d_Tokens_readNumber_66 : decode Y_Tokens_readNumber.2.1 66 = .ok (.getfield 40, 3) := by decide +kernel
theorem d_Tokens_readNumber_69 : decode Y_Tokens_readNumber.2.1 69 = .ok (.aload_n 0, 1) := by decide +kernel
theorem d_Tokens_readNumber_70 : decode Y_Tokens_readNumber.2.1 70 = .ok (.getfield 37, 3) := by decide +kernel
theorem d_Tokens_readNumber_73 : decode Y_Tokens_readNumber.2.1 73 = .ok (.if_icmp .ge 22, 3) := by decide +kernel
theorem d_Tokens_readNumber_76 : decode Y_Tokens_readNumber.2.1 76 = .ok (.aload_n 0, 1) := by decide +kernel
theorem d_Tokens_readNumber_77 : decode Y_Tokens_readNumber.2.1 77 = .ok (.getfield 13, 3) := by decide +kernel
theorem d_Tokens_readNumber_80 : decode Y_Tokens_readNumber.2.1 80 = .ok (.aload_n 0, 1) := by decide +kernel
theorem d_Tokens_readNumber_81 : decode Y_Tokens_readNumber.2.1 81 = .ok (.getfield 40, 3) := by decide +kernel
theorem d_Tokens_readNumber_84 : decode Y_Tokens_readNumber.2.1 84 = .ok (.iaload, 1) := by decide +kernel
theorem d_Tokens_readNumber_85 : decode Y_Tokens_readNumber.2.1 85 = .ok (.invokestatic 56, 3) := by decide +kernel
theorem d_Tokens_readNumber_88 : decode Y_Tokens_readNumber.2.1 88 = .ok (.ifCond .eq 7, 3) := by decide +kernel
theorem d_Tokens_readNumber_91 : decode Y_Tokens_readNumber.2.1 91 = .ok (.iconst 1, 1) := by decide +kernel
theorem d_Tokens_readNumber_92 : decode Y_Tokens_readNumber.2.1 92 = .ok (.goto 4, 3) := by decide +kernel
theorem d_Tokens_readNumber_95 : decode Y_Tokens_readNumber.2.1 95 = .ok (.iconst 0, 1) := by decide +kernel
theorem d_Tokens_readNumber_96 : decode Y_Tokens_readNumber.2.1 96 = .ok (.istore_n 1, 1) := by decide +kernel
theorem d_Tokens_readNumber_97 : decode Y_Tokens_readNumber.2.1 97 = .ok (.aload_n 0, 1) := by decide +kernel
theorem d_Tokens_readNumber_98 : decode Y_Tokens_readNumber.2.1 98 = .ok (.aload_n 0, 1) := by decide +kernel
theorem d_Tokens_readNumber_99 : decode Y_Tokens_readNumber.2.1 99 = .ok (.getfield 40, 3) := by decide +kernel
theorem d_Tokens_readNumber_102 : decode Y_Tokens_readNumber.2.1 102 = .ok (.aload_n 0, 1) := by decide +kernel
theorem d_Tokens_readNumber_103 : decode Y_Tokens_readNumber.2.1 103 = .ok (.getfield 46, 3) := by decide +kernel
theorem d_Tokens_readNumber_106 : decode Y_Tokens_readNumber.2.1 106 = .ok (.isub, 1) := by decide +kernel
theorem d_Tokens_readNumber_107 : decode Y_Tokens_readNumber.2.1 107 = .ok (.iconst 4, 1) := by decide +kernel
theorem d_Tokens_readNumber_108 : decode Y_Tokens_readNumber.2.1 108 = .ok (.if_icmp .gt 7, 3) := by decide +kernel
theorem d_Tokens_readNumber_111 : decode Y_Tokens_readNumber.2.1 111 = .ok (.iload_n 1, 1) := by decide +kernel
theorem d_Tokens_readNumber_112 : decode Y_Tokens_readNumber.2.1 112 = .ok (.ifCond .eq 7, 3) := by decide +kernel
theorem d_Tokens_readNumber_115 : decode Y_Tokens_readNumber.2.1 115 = .ok (.iconst 1, 1) := by decide +kernel
theorem d_Tokens_readNumber_116 : decode Y_Tokens_readNumber.2.1 116 = .ok (.goto 4, 3) := by decide +kernel
theorem d_Tokens_readNumber_119 : decode Y_Tokens_readNumber.2.1 119 = .ok (.iconst 3, 1) := by decide +kernel
theorem d_Tokens_readNumber_120 : decode Y_Tokens_readNumber.2.1 120 = .ok (.putfield 53, 3) := by decide +kernel
theorem d_Tokens_readNumber_123 : decode Y_Tokens_readNumber.2.1 123 = .ok (.return_, 1) := by decide +kernel
theorem e_Tokens_readNumber {l : Launch} {G : GT} {d : Nat} {P : MM → Prop} {m : MM}   (H : wfM m → ((m 3 3) ≥ (m 3 2) → (Wq l G false Y_Tokens_readNumber d (QV P) 65 [(0, .inr (.inr 3))] [] m)) ∧ (¬ ((m 3 3) ≥ (m 3 2)) → (∃ b6 n10 : Nat, m 3 1 = b6 ∧ q_lay b6 = .inr (0, n10) ∧ ((0 ≤ (m 3 3) ∧ (m 3 3) < (n10 : Int)) ∧ (∃ (e13 : Nat) (P14 : Int → MM → Prop), e13 < d ∧ CI l G Y_Tokens_isDigit e13 [.inl (m b6 (m 3 3))] m P14 ∧ (∀ z19 m20, P14 z19 m20 → inR z19 → wfM m20 → ((z19 = 0 → (Wq l G false Y_Tokens_readNumber d (QV P) 65 [(0, .inr (.inr 3))] [] m20)) ∧ (¬ (z19 = 0) → (∃ b29 n33 : Nat, m20 3 1 = b29 ∧ q_lay b29 = .inr (0, n33) ∧ ((0 ≤ (m20 3 3) ∧ (m20 3 3) < (n33 : Int)) ∧ (∀ m36, m36 = up m20 3 6 (w64 ((w64 ((m20 3 6) * 10)) + (w32 ((m20 b29 (m20 3 3)) - 48)))) → (∀ m39, m39 = up m36 3 3 (w32 ((m36 3 3) + 1)) → (Wq l G false Y_Tokens_readNumber d (QV P) 0 [(0, .inr (.inr 3))] [] m39))))))))))))) : CV l G Y_Tokens_readNumber d [.inr (.inr 3)] m P := by
  refine CV.of [(0, .inr (.inr 3))] k_Tokens_readNumber.1 (Nat.le_of_ble_eq_true rfl) rfl (Wp.wf (fun hw _ hl hs => ?_))
  have H0 := H hw
  refine Wp.aload_n 0 0 d_Tokens_readNumber_0 rfl rfl ?_
  refine Wq.getI 3 rfl d_Tokens_readNumber_1 fl_Tokens_40 rfl (Or.inl rfl) ?_
  refine Wp.aload_n 0 0 d_Tokens_readNumber_4 rfl rfl ?_
  refine Wq.getI 2 rfl d_Tokens_readNumber_5 fl_Tokens_37 rfl (Or.inl rfl) ?_
  obtain ⟨H2, H3⟩ := H0
  refine Wp.icmp_ge 65 d_Tokens_readNumber_8 (by decide) (fun c1 => ?_) (fun c1 => ?_)
  · have H4 := H2 c1
    exact H4
  · have H5 := H3 c1
    refine Wp.aload_n 0 0 d_Tokens_readNumber_11 rfl rfl ?_
    obtain ⟨b6, n10, hb7, hB8, H9⟩ := H5
    refine Wp.getR b6 d_Tokens_readNumber_12 fl_Tokens_13 rfl (Or.inl rfl) rfl hb7 ?_
    refine Wp.aload_n 0 0 d_Tokens_readNumber_15 rfl rfl ?_
    refine Wq.getI 3 rfl d_Tokens_readNumber_16 fl_Tokens_40 rfl (Or.inl rfl) ?_
    obtain ⟨s11, H12⟩ := H9
    refine Wp.iald d_Tokens_readNumber_19 hB8 (Or.inl rfl) s11.1 s11.2 ?_
    obtain ⟨e13, P14, hd15, ho16, H17⟩ := H12
    refine Wq.SI (st := []) [.inl (m b6 (m 3 3))] d_Tokens_readNumber_20 k_Tokens_isDigit ml_Tokens_63 rfl  (fun h => by cases h) (Nat.le_of_ble_eq_true rfl) hd15 ho16 (fun z19 m20 hp21 hz22 hw23 => ?_)
    have H18 := H17 z19 m20 hp21 hz22 hw23
    obtain ⟨H25, H26⟩ := H18
    refine Wp.if_eq 65 d_Tokens_readNumber_23 (by decide) (fun c24 => ?_) (fun c24 => ?_)
    · have H27 := H25 c24
      exact H27
    · have H28 := H26 c24
      refine Wp.aload_n 0 0 d_Tokens_readNumber_26 rfl rfl ?_
      refine Wp.aload_n 0 0 d_Tokens_readNumber_27 rfl rfl ?_
      refine Wq.getL 6 rfl d_Tokens_readNumber_28 fl_Tokens_49 rfl rfl ?_
      refine Wp.ldc2 (z := 10) d_Tokens_readNumber_31 kl_Tokens_79 (by decide) (by decide) ?_
      refine Wp.lmul d_Tokens_readNumber_34 ?_
      refine Wp.aload_n 0 0 d_Tokens_readNumber_35 rfl rfl ?_
      obtain ⟨b29, n33, hb30, hB31, H32⟩ := H28
      refine Wp.getR b29 d_Tokens_readNumber_36 fl_Tokens_13 rfl (Or.inl rfl) rfl hb30 ?_
      refine Wp.aload_n 0 0 d_Tokens_readNumber_39 rfl rfl ?_
      refine Wq.getI 3 rfl d_Tokens_readNumber_40 fl_Tokens_40 rfl (Or.inl rfl) ?_
      obtain ⟨s34, H35⟩ := H32
      refine Wp.iald d_Tokens_readNumber_43 hB31 (Or.inl rfl) s34.1 s34.2 ?_
      refine Wp.bipush d_Tokens_readNumber_44 (by decide) (by decide) ?_
      refine Wp.isubw d_Tokens_readNumber_46 ?_
      refine Wp.i2l d_Tokens_readNumber_47 ?_
      refine Wp.ladd d_Tokens_readNumber_48 ?_
      refine Wq.putL 6 rfl d_Tokens_readNumber_49 fl_Tokens_49 (fun _ _ _ h => by cases h; rfl) rfl rfl rfl (fun m36 hm37 => ?_)
      have H38 := H35 m36 hm37
      refine Wp.aload_n 0 0 d_Tokens_readNumber_52 rfl rfl ?_
      refine Wp.dup d_Tokens_readNumber_53 rfl ?_
      refine Wq.getI 3 rfl d_Tokens_readNumber_54 fl_Tokens_40 rfl (Or.inl rfl) ?_
      refine Wp.iconst d_Tokens_readNumber_57 (by decide) ?_
      refine Wp.iaddw d_Tokens_readNumber_58 ?_
      refine Wq.putI 3 rfl d_Tokens_readNumber_59 fl_Tokens_40 (fun _ _ _ h => by cases h; rfl) rfl rfl rfl (fun m39 hm40 => ?_)
      have H41 := H38 m39 hm40
      refine Wp.goto 0 d_Tokens_readNumber_62 (by decide) ?_
      exact H41
theorem s_Tokens_readNumber_0 {l : Launch} {G : GT} {d : Nat} {P : MM → Prop} {m : MM}   (H : wfM m → ((m 3 3) ≥ (m 3 2) → (Wq l G false Y_Tokens_readNumber d (QV P) 65 [(0, .inr (.inr 3))] [] m)) ∧ (¬ ((m 3 3) ≥ (m 3 2)) → (∃ b6 n10 : Nat, m 3 1 = b6 ∧ q_lay b6 = .inr (0, n10) ∧ ((0 ≤ (m 3 3) ∧ (m 3 3) < (n10 : Int)) ∧ (∃ (e13 : Nat) (P14 : Int → MM → Prop), e13 < d ∧ CI l G Y_Tokens_isDigit e13 [.inl (m b6 (m 3 3))] m P14 ∧ (∀ z19 m20, P14 z19 m20 → inR z19 → wfM m20 → ((z19 = 0 → (Wq l G false Y_Tokens_readNumber d (QV P) 65 [(0, .inr (.inr 3))] [] m20)) ∧ (¬ (z19 = 0) → (∃ b29 n33 : Nat, m20 3 1 = b29 ∧ q_lay b29 = .inr (0, n33) ∧ ((0 ≤ (m20 3 3) ∧ (m20 3 3) < (n33 : Int)) ∧ (∀ m36, m36 = up m20 3 6 (w64 ((w64 ((m20 3 6) * 10)) + (w32 ((m20 b29 (m20 3 3)) - 48)))) → (∀ m39, m39 = up m36 3 3 (w32 ((m36 3 3) + 1)) → (Wq l G false Y_Tokens_readNumber d (QV P) 0 [(0, .inr (.inr 3))] [] m39))))))))))))) : Wq l G false Y_Tokens_readNumber d (QV P) 0 [(0, .inr (.inr 3))] [] m := by
  refine Wp.wf (fun hw _ hl hs => ?_)
  have H0 := H hw
  refine Wp.aload_n 0 0 d_Tokens_readNumber_0 rfl rfl ?_
  refine Wq.getI 3 rfl d_Tokens_readNumber_1 fl_Tokens_40 rfl (Or.inl rfl) ?_
  refine Wp.aload_n 0 0 d_Tokens_readNumber_4 rfl rfl ?_
  refine Wq.getI 2 rfl d_Tokens_readNumber_5 fl_Tokens_37 rfl (Or.inl rfl) ?_
  obtain ⟨H2, H3⟩ := H0
  refine Wp.icmp_ge 65 d_Tokens_readNumber_8 (by decide) (fun c1 => ?_) (fun c1 => ?_)
  · have H4 := H2 c1
    exact H4
  · have H5 := H3 c1
    refine Wp.aload_n 0 0 d_Tokens_readNumber_11 rfl rfl ?_
    obtain ⟨b6, n10, hb7, hB8, H9⟩ := H5
    refine Wp.getR b6 d_Tokens_readNumber_12 fl_Tokens_13 rfl (Or.inl rfl) rfl hb7 ?_
    refine Wp.aload_n 0 0 d_Tokens_readNumber_15 rfl rfl ?_
    refine Wq.getI 3 rfl d_Tokens_readNumber_16 fl_Tokens_40 rfl (Or.inl rfl) ?_
    obtain ⟨s11, H12⟩ := H9
    refine Wp.iald d_Tokens_readNumber_19 hB8 (Or.inl rfl) s11.1 s11.2 ?_
    obtain ⟨e13, P14, hd15, ho16, H17⟩ := H12
    refine Wq.SI (st := []) [.inl (m b6 (m 3 3))] d_Tokens_readNumber_20 k_Tokens_isDigit ml_Tokens_63 rfl  (fun h => by cases h) (Nat.le_of_ble_eq_true rfl) hd15 ho16 (fun z19 m20 hp21 hz22 hw23 => ?_)
    have H18 := H17 z19 m20 hp21 hz22 hw23
    obtain ⟨H25, H26⟩ := H18
    refine Wp.if_eq 65 d_Tokens_readNumber_23 (by decide) (fun c24 => ?_) (fun c24 => ?_)
    · have H27 := H25 c24
      exact H27
    · have H28 := H26 c24
      refine Wp.aload_n 0 0 d_Tokens_readNumber_26 rfl rfl ?_
      refine Wp.aload_n 0 0 d_Tokens_readNumber_27 rfl rfl ?_
      refine Wq.getL 6 rfl d_Tokens_readNumber_28 fl_Tokens_49 rfl rfl ?_
      refine Wp.ldc2 (z := 10) d_Tokens_readNumber_31 kl_Tokens_79 (by decide) (by decide) ?_
      refine Wp.lmul d_Tokens_readNumber_34 ?_
      refine Wp.aload_n 0 0 d_Tokens_readNumber_35 rfl rfl ?_
      obtain ⟨b29, n33, hb30, hB31, H32⟩ := H28
      refine Wp.getR b29 d_Tokens_readNumber_36 fl_Tokens_13 rfl (Or.inl rfl) rfl hb30 ?_
      refine Wp.aload_n 0 0 d_Tokens_readNumber_39 rfl rfl ?_
      refine Wq.getI 3 rfl d_Tokens_readNumber_40 fl_Tokens_40 rfl (Or.inl rfl) ?_
      obtain ⟨s34, H35⟩ := H32
      refine Wp.iald d_Tokens_readNumber_43 hB31 (Or.inl rfl) s34.1 s34.2 ?_
      refine Wp.bipush d_Tokens_readNumber_44 (by decide) (by decide) ?_
      refine Wp.isubw d_Tokens_readNumber_46 ?_
      refine Wp.i2l d_Tokens_readNumber_47 ?_
      refine Wp.ladd d_Tokens_readNumber_48 ?_
      refine Wq.putL 6 rfl d_Tokens_readNumber_49 fl_Tokens_49 (fun _ _ _ h => by cases h; rfl) rfl rfl rfl (fun m36 hm37 => ?_)
      have H38 := H35 m36 hm37
      refine Wp.aload_n 0 0 d_Tokens_readNumber_52 rfl rfl ?_
      refine Wp.dup d_Tokens_readNumber_53 rfl ?_
      refine Wq.getI 3 rfl d_Tokens_readNumber_54 fl_Tokens_40 rfl (Or.inl rfl) ?_
      refine Wp.iconst d_Tokens_readNumber_57 (by decide) ?_
      refine Wp.iaddw d_Tokens_readNumber_58 ?_
      refine Wq.putI 3 rfl d_Tokens_readNumber_59 fl_Tokens_40 (fun _ _ _ h => by cases h; rfl) rfl rfl rfl (fun m39 hm40 => ?_)
      have H41 := H38 m39 hm40
      refine Wp.goto 0 d_Tokens_readNumber_62 (by decide) ?_
      exact H41
theorem s_Tokens_readNumber_65 {l : Launch} {G : GT} {d : Nat} {P : MM → Prop} {m : MM}   (H : wfM m → ((m 3 3) ≥ (m 3 2) → (((w32 ((m 3 3) - (m 3 5))) > 4 → (∀ m11, m11 = up m 3 4 1 → (P m11))) ∧ (¬ ((w32 ((m 3 3) - (m 3 5))) > 4) → (∀ m14, m14 = up m 3 4 3 → (P m14))))) ∧ (¬ ((m 3 3) ≥ (m 3 2)) → (∃ b17 n21 : Nat, m 3 1 = b17 ∧ q_lay b17 = .inr (0, n21) ∧ ((0 ≤ (m 3 3) ∧ (m 3 3) < (n21 : Int)) ∧ (∃ (e24 : Nat) (P25 : Int → MM → Prop), e24 < d ∧ CI l G Y_Tokens_isLetter e24 [.inl (m b17 (m 3 3))] m P25 ∧ (∀ z30 m31, P25 z30 m31 → inR z30 → wfM m31 → ((z30 = 0 → (((w32 ((m31 3 3) - (m31 3 5))) > 4 → (∀ m45, m45 = up m31 3 4 1 → (P m45))) ∧ (¬ ((w32 ((m31 3 3) - (m31 3 5))) > 4) → (∀ m48, m48 = up m31 3 4 3 → (P m48))))) ∧ (¬ (z30 = 0) → (((w32 ((m31 3 3) - (m31 3 5))) > 4 → (∀ m56, m56 = up m31 3 4 1 → (P m56))) ∧ (¬ ((w32 ((m31 3 3) - (m31 3 5))) > 4) → (∀ m59, m59 = up m31 3 4 1 → (P m59)))))))))))) : Wq l G false Y_Tokens_readNumber d (QV P) 65 [(0, .inr (.inr 3))] [] m := by
  refine Wp.wf (fun hw _ hl hs => ?_)
  have H0 := H hw
  refine Wp.aload_n 0 0 d_Tokens_readNumber_65 rfl rfl ?_
  refine Wq.getI 3 rfl d_Tokens_readNumber_66 fl_Tokens_40 rfl (Or.inl rfl) ?_
  refine Wp.aload_n 0 0 d_Tokens_readNumber_69 rfl rfl ?_
  refine Wq.getI 2 rfl d_Tokens_readNumber_70 fl_Tokens_37 rfl (Or.inl rfl) ?_
  obtain ⟨H2, H3⟩ := H0
  refine Wp.icmp_ge 95 d_Tokens_readNumber_73 (by decide) (fun c1 => ?_) (fun c1 => ?_)
  · have H4 := H2 c1
    refine Wp.iconst d_Tokens_readNumber_95 (by decide) ?_
    refine Wp.istore_n 1 [(0, .inr (.inr 3)), (1, .inl 0)] d_Tokens_readNumber_96 rfl (by decide) rfl ?_
    refine Wp.aload_n 0 0 d_Tokens_readNumber_97 rfl rfl ?_
    refine Wp.aload_n 0 0 d_Tokens_readNumber_98 rfl rfl ?_
    refine Wq.getI 3 rfl d_Tokens_readNumber_99 fl_Tokens_40 rfl (Or.inl rfl) ?_
    refine Wp.aload_n 0 0 d_Tokens_readNumber_102 rfl rfl ?_
    refine Wq.getI 5 rfl d_Tokens_readNumber_103 fl_Tokens_46 rfl (Or.inl rfl) ?_
    refine Wp.isubw d_Tokens_readNumber_106 ?_
    refine Wp.iconst d_Tokens_readNumber_107 (by decide) ?_
    obtain ⟨H7, H8⟩ := H4
    refine Wp.icmp_gt 115 d_Tokens_readNumber_108 (by decide) (fun c6 => ?_) (fun c6 => ?_)
    · have H9 := H7 c6
      refine Wp.iconst d_Tokens_readNumber_115 (by decide) ?_
      refine Wp.goto 120 d_Tokens_readNumber_116 (by decide) ?_
      refine Wq.putI 4 rfl d_Tokens_readNumber_120 fl_Tokens_53 (fun _ _ _ h => by cases h; rfl) rfl rfl rfl (fun m11 hm12 => ?_)
      have H13 := H9 m11 hm12
      exact Wq.vret d_Tokens_readNumber_123 rfl H13
    · have H10 := H8 c6
      refine Wp.iload_n 1 1 d_Tokens_readNumber_111 rfl rfl ?_
      refine Wp.if_eq 119 d_Tokens_readNumber_112 (by decide) (fun _ => ?_) (fun c => absurd (by decide) c)
      refine Wp.iconst d_Tokens_readNumber_119 (by decide) ?_
      refine Wq.putI 4 rfl d_Tokens_readNumber_120 fl_Tokens_53 (fun _ _ _ h => by cases h; rfl) rfl rfl rfl (fun m14 hm15 => ?_)
      have H16 := H10 m14 hm15
      exact Wq.vret d_Tokens_readNumber_123 rfl H16
  · have H5 := H3 c1
    refine Wp.aload_n 0 0 d_Tokens_readNumber_76 rfl rfl ?_
    obtain ⟨b17, n21, hb18, hB19, H20⟩ := H5
    refine Wp.getR b17 d_Tokens_readNumber_77 fl_Tokens_13 rfl (Or.inl rfl) rfl hb18 ?_
    refine Wp.aload_n 0 0 d_Tokens_readNumber_80 rfl rfl ?_
    refine Wq.getI 3 rfl d_Tokens_readNumber_81 fl_Tokens_40 rfl (Or.inl rfl) ?_
    obtain ⟨s22, H23⟩ := H20
    refine Wp.iald d_Tokens_readNumber_84 hB19 (Or.inl rfl) s22.1 s22.2 ?_
    obtain ⟨e24, P25, hd26, ho27, H28⟩ := H23
    refine Wq.SI (st := []) [.inl (m b17 (m 3 3))] d_Tokens_readNumber_85 k_Tokens_isLetter ml_Tokens_56 rfl  (fun h => by cases h) (Nat.le_of_ble_eq_true rfl) hd26 ho27 (fun z30 m31 hp32 hz33 hw34 => ?_)
    have H29 := H28 z30 m31 hp32 hz33 hw34
    obtain ⟨H36, H37⟩ := H29
    refine Wp.if_eq 95 d_Tokens_readNumber_88 (by decide) (fun c35 => ?_) (fun c35 => ?_)
    · have H38 := H36 c35
      refine Wp.iconst d_Tokens_readNumber_95 (by decide) ?_
      refine Wp.istore_n 1 [(0, .inr (.inr 3)), (1, .inl 0)] d_Tokens_readNumber_96 rfl (by decide) rfl ?_
      refine Wp.aload_n 0 0 d_Tokens_readNumber_97 rfl rfl ?_
      refine Wp.aload_n 0 0 d_Tokens_readNumber_98 rfl rfl ?_
      refine Wq.getI 3 rfl d_Tokens_readNumber_99 fl_Tokens_40 rfl (Or.inl rfl) ?_
      refine Wp.aload_n 0 0 d_Tokens_readNumber_102 rfl rfl ?_
      refine Wq.getI 5 rfl d_Tokens_readNumber_103 fl_Tokens_46 rfl (Or.inl rfl) ?_
      refine Wp.isubw d_Tokens_readNumber_106 ?_
      refine Wp.iconst d_Tokens_readNumber_107 (by decide) ?_
      obtain ⟨H41, H42⟩ := H38
      refine Wp.icmp_gt 115 d_Tokens_readNumber_108 (by decide) (fun c40 => ?_) (fun c40 => ?_)
      · have H43 := H41 c40
        refine Wp.iconst d_Tokens_readNumber_115 (by decide) ?_
        refine Wp.goto 120 d_Tokens_readNumber_116 (by decide) ?_
        refine Wq.putI 4 rfl d_Tokens_readNumber_120 fl_Tokens_53 (fun _ _ _ h => by cases h; rfl) rfl rfl rfl (fun m45 hm46 => ?_)
        have H47 := H43 m45 hm46
        exact Wq.vret d_Tokens_readNumber_123 rfl H47
      · have H44 := H42 c40
        refine Wp.iload_n 1 1 d_Tokens_readNumber_111 rfl rfl ?_
        refine Wp.if_eq 119 d_Tokens_readNumber_112 (by decide) (fun _ => ?_) (fun c => absurd (by decide) c)
        refine Wp.iconst d_Tokens_readNumber_119 (by decide) ?_
        refine Wq.putI 4 rfl d_Tokens_readNumber_120 fl_Tokens_53 (fun _ _ _ h => by cases h; rfl) rfl rfl rfl (fun m48 hm49 => ?_)
        have H50 := H44 m48 hm49
        exact Wq.vret d_Tokens_readNumber_123 rfl H50
    · have H39 := H37 c35
      refine Wp.iconst d_Tokens_readNumber_91 (by decide) ?_
      refine Wp.goto 96 d_Tokens_readNumber_92 (by decide) ?_
      refine Wp.istore_n 1 [(0, .inr (.inr 3)), (1, .inl 1)] d_Tokens_readNumber_96 rfl (by decide) rfl ?_
      refine Wp.aload_n 0 0 d_Tokens_readNumber_97 rfl rfl ?_
      refine Wp.aload_n 0 0 d_Tokens_readNumber_98 rfl rfl ?_
      refine Wq.getI 3 rfl d_Tokens_readNumber_99 fl_Tokens_40 rfl (Or.inl rfl) ?_
      refine Wp.aload_n 0 0 d_Tokens_readNumber_102 rfl rfl ?_
      refine Wq.getI 5 rfl d_Tokens_readNumber_103 fl_Tokens_46 rfl (Or.inl rfl) ?_
      refine Wp.isubw d_Tokens_readNumber_106 ?_
      refine Wp.iconst d_Tokens_readNumber_107 (by decide) ?_
      obtain ⟨H52, H53⟩ := H39
      refine Wp.icmp_gt 115 d_Tokens_readNumber_108 (by decide) (fun c51 => ?_) (fun c51 => ?_)
      · have H54 := H52 c51
        refine Wp.iconst d_Tokens_readNumber_115 (by decide) ?_
        refine Wp.goto 120 d_Tokens_readNumber_116 (by decide) ?_
        refine Wq.putI 4 rfl d_Tokens_readNumber_120 fl_Tokens_53 (fun _ _ _ h => by cases h; rfl) rfl rfl rfl (fun m56 hm57 => ?_)
        have H58 := H54 m56 hm57
        exact Wq.vret d_Tokens_readNumber_123 rfl H58
      · have H55 := H53 c51
        refine Wp.iload_n 1 1 d_Tokens_readNumber_111 rfl rfl ?_
        refine Wp.if_eq 119 d_Tokens_readNumber_112 (by decide) (fun c => absurd c (by decide)) (fun _ => ?_)
        refine Wp.iconst d_Tokens_readNumber_115 (by decide) ?_
        refine Wp.goto 120 d_Tokens_readNumber_116 (by decide) ?_
        refine Wq.putI 4 rfl d_Tokens_readNumber_120 fl_Tokens_53 (fun _ _ _ h => by cases h; rfl) rfl rfl rfl (fun m59 hm60 => ?_)
        have H61 := H55 m59 hm60
        exact Wq.vret d_Tokens_readNumber_123 rfl H61
theorem d_Reader_read_0 : decode Y_Reader_read.2.1 0 = .ok (.aload_n 0, 1) := by decide +kernel
theorem d_Reader_read_1 : decode Y_Reader_read.2.1 1 = .ok (.aload_n 3, 1) := by decide +kernel
theorem d_Reader_read_2 : decode Y_Reader_read.2.1 2 = .ok (.putfield 22, 3) := by decide +kernel
theorem d_Reader_read_5 : decode Y_Reader_read.2.1 5 = .ok (.aload_n 0, 1) := by decide +kernel
theorem d_Reader_read_6 : decode Y_Reader_read.2.1 6 = .ok (.getfield 22, 3) := by decide +kernel
theorem d_Reader_read_9 : decode Y_Reader_read.2.1 9 = .ok (.invokevirtual 26, 3) := by decide +kernel
theorem d_Reader_read_12 : decode Y_Reader_read.2.1 12 = .ok (.aload_n 0, 1) := by decide +kernel
theorem d_Reader_read_13 : decode Y_Reader_read.2.1 13 = .ok (.iconst 0, 1) := by decide +kernel
theorem d_Reader_read_14 : decode Y_Reader_read.2.1 14 = .ok (.putfield 31, 3) := by decide +kernel
theorem d_Reader_read_17 : decode Y_Reader_read.2.1 17 = .ok (.aload_n 0, 1) := by decide +kernel
theorem d_Reader_read_18 : decode Y_Reader_read.2.1 18 = .ok (.iconst 0, 1) := by decide +kernel
theorem d_Reader_read_19 : decode Y_Reader_read.2.1 19 = .ok (.putfield 35, 3) := by decide +kernel
theorem d_Reader_read_22 : decode Y_Reader_read.2.1 22 = .ok (.aload_n 0, 1) := by decide +kernel
theorem d_Reader_read_23 : decode Y_Reader_read.2.1 23 = .ok (.iconst 0, 1) := by decide +kernel
theorem d_Reader_read_24 : decode Y_Reader_read.2.1 24 = .ok (.putfield 38, 3) := by decide +kernel
theorem d_Reader_read_27 : decode Y_Reader_read.2.1 27 = .ok (.aload_n 0, 1) := by decide +kernel
theorem d_Reader_read_28 : decode Y_Reader_read.2.1 28 = .ok (.iconst 0, 1) := by decide +kernel
theorem d_Reader_read_29 : decode Y_Reader_read.2.1 29 = .ok (.putfield 41, 3) := by decide +kernel
theorem d_Reader_read_32 : decode Y_Reader_read.2.1 32 = .ok (.aload_n 0, 1) := by decide +kernel
theorem d_Reader_read_33 : decode Y_Reader_read.2.1 33 = .ok (.iconst (-1), 1) := by decide +kernel
theorem d_Reader_read_34 : decode Y_Reader_read.2.1 34 = .ok (.putfield 45, 3) := by decide +kernel
theorem d_Reader_read_37 : decode Y_Reader_read.2.1 37 = .ok (.aload_n 0, 1) := by decide +kernel
theorem d_Reader_read_38 : decode Y_Reader_read.2.1 38 = .ok (.getfield 12, 3) := by decide +kernel
theorem d_Reader_read_41 : decode Y_Reader_read.2.1 41 = .ok (.aload_n 1, 1) := by decide +kernel
theorem d_Reader_read_42 : decode Y_Reader_read.2.1 42 = .ok (.iload_n 2, 1) := by decide +kernel
theorem d_Reader_read_43 : decode Y_Reader_read.2.1 43 = .ok (.invokevirtual 48, 3) := by decide +kernel
theorem d_Reader_read_46 : decode Y_Reader_read.2.1 46 = .ok (.iconst 0, 1) := by decide +kernel
theorem d_Reader_read_47 : decode Y_Reader_read.2.1 47 = .ok (.istore 4, 2) := by decide +kernel
theorem d_Reader_read_49 : decode Y_Reader_read.2.1 49 = .ok (.iload 4, 2) := by decide +kernel
theorem d_Reader_read_51 : decode Y_Reader_read.2.1 51 = .ok (.sipush 1600, 3) := by decide +kernel
theorem d_Reader_read_54 : decode Y_Reader_read.2.1 54 = .ok (.if_icmp .ge 30, 3) := by decide +kernel
theorem d_Reader_read_57 : decode Y_Reader_read.2.1 57 = .ok (.aload_n 0, 1) := by decide +kernel
theorem d_Reader_read_58 : decode Y_Reader_read.2.1 58 = .ok (.getfield 41, 3) := by decide +kernel
theorem d_Reader_read_61 : decode Y_Reader_read.2.1 61 = .ok (.ifCond .ne 23, 3) := by decide +kernel
theorem d_Reader_read_64 : decode Y_Reader_read.2.1 64 = .ok (.aload_n 0, 1) := by decide +kernel
theorem d_Reader_read_65 : decode Y_Reader_read.2.1 65 = .ok (.getfield 12, 3) := by decide +kernel
theorem d_Reader_read_68 : decode Y_Reader_read.2.1 68 = .ok (.getfield 52, 3) := by decide +kernel
theorem d_Reader_read_71 : decode Y_Reader_read.2.1 71 = .ok (.ifCond .eq 13, 3) := by decide +kernel
theorem d_Reader_read_74 : decode Y_Reader_read.2.1 74 = .ok (.aload_n 0, 1) := by decide +kernel
theorem d_Reader_read_75 : decode Y_Reader_read.2.1 75 = .ok (.invokevirtual 55, 3) := by decide +kernel
theorem d_Reader_read_78 : decode Y_Reader_read.2.1 78 = .ok (.iinc 4 1, 3) := by decide +kernel
theorem d_Reader_read_81 : decode Y_Reader_read.2.1 81 = .ok (.goto (-32), 3) := by decide +kernel
theorem d_Reader_read_84 : decode Y_Reader_read.2.1 84 = .ok (.aload_n 0, 1) := by decide +kernel
theorem d_Reader_read_85 : decode Y_Reader_read.2.1 85 = .ok (.getfield 41, 3) := by decide +kernel
theorem d_Reader_read_88 : decode Y_Reader_read.2.1 88 = .ok (.ifCond .ne 20, 3) := by decide +kernel
theorem d_Reader_read_91 : decode Y_Reader_read.2.1 91 = .ok (.aload_n 0, 1) := by decide +kernel
theorem d_Reader_read_92 : decode Y_Reader_read.2.1 92 = .ok (.getfield 22, 3) := by decide +kernel
theorem d_Reader_read_95 : decode Y_Reader_read.2.1 95 = .ok (.invokevirtual 58, 3) := by decide +kernel
theorem d_Reader_read_98 : decode Y_Reader_read.2.1 98 = .ok (.ifCond .ne 10, 3) := by decide +kernel
theorem d_Reader_read_101 : decode Y_Reader_read.2.1 101 = .ok (.aload_n 0, 1) := by decide +kernel
theorem d_Reader_read_102 : decode Y_Reader_read.2.1 102 = .ok (.bipush 6, 2) := by decide +kernel
theorem d_Reader_read_104 : decode Y_Reader_read.2.1 104 = .ok (.iload_n 2, 1) := by decide +kernel
theorem d_Reader_read_105 : decode Y_Reader_read.2.1 105 = .ok (.invokevirtual 62, 3) := by decide +kernel
theorem d_Reader_read_108 : decode Y_Reader_read.2.1 108 = .ok (.aload_n 0, 1) := by decide +kernel
theorem d_Reader_read_109 : decode Y_Reader_read.2.1 109 = .ok (.getfield 41, 3) := by decide +kernel
theorem d_Reader_read_112 : decode Y_Reader_read.2.1 112 = .ok (.ifCond .ne 7, 3) := by decide +kernel
theorem d_Reader_read_115 : decode Y_Reader_read.2.1 115 = .ok (.iconst 1, 1) := by decide +kernel
theorem d_Reader_read_116 : decode Y_Reader_read.2.1 116 = .ok (.goto 4, 3) := by decide +kernel
theorem d_Reader_read_119 : decode Y_Reader_read.2.1 119 = .ok (.iconst 0, 1) := by decide +kernel
theorem d_Reader_read_120 : decode Y_Reader_read.2.1 120 = .ok (.ireturn, 1) := by decide +kernel
theorem e_Reader_read {l : Launch} {G : GT} {d : Nat} {P : Int → MM → Prop} {m : MM} (x2 : Int) (h1 : Nat) (n1 : Nat) (b3_ : Nat) (hl1 : q_lay h1 = .inr (0, n1)) (hlt_h1 : n1 < 2147483648) (hB3_ : isB b3_) (H : wfM m → inR x2 → ∀ m1, m1 = up m 2 2 b3_ → (∃ b4 : Nat, m1 2 2 = b4 ∧ isB b4 ∧ (∃ (e8 : Nat) (P9 : MM → Prop), e8 < d ∧ CV l G Y_Board_clear e8 [.inr (.inr b4)] m1 P9 ∧ (∀ m15, P9 m15 → wfM m15 → (∀ m19, m19 = up m15 2 3 0 → (∀ m22, m22 = up m19 2 4 0 → (∀ m25, m25 = up m22 2 5 0 → (∀ m28, m28 = up m25 2 6 0 → (∀ m31, m31 = up m28 2 7 (-1) → (∃ (e34 : Nat) (P35 : MM → Prop), e34 < d ∧ CV l G Y_Tokens_start e34 [.inr (.inr 3), .inr (.inr h1), .inl x2] m31 P35 ∧ (∀ m41, P35 m41 → wfM m41 → (Wq l G false Y_Reader_read d (QI P) 49 [(0, .inr (.inr 2)), (2, .inl x2), (4, .inl 0)] [] m41)))))))))))) : CI l G Y_Reader_read d [.inr (.inr 2), .inr (.inr h1), .inl x2, .inr (.inr b3_)] m P := by
  refine CI.of [(0, .inr (.inr 2)), (1, .inr (.inr h1)), (2, .inl x2), (3, .inr (.inr b3_))] k_Reader_read.1 (Nat.le_of_ble_eq_true rfl) rfl (Wp.wf (fun hw _ hl hs => ?_))
  have H0 := H hw (hl _ (List.mem_of_getElem? (i := 2) rfl))
  refine Wp.aload_n 0 0 d_Reader_read_0 rfl rfl ?_
  refine Wp.aload_n 3 3 d_Reader_read_1 rfl rfl ?_
  refine Wq.putR 2 rfl d_Reader_read_2 fl_Reader_22 (fun _ _ _ h => by cases h; rfl) rfl rfl rfl (fun m1 hm2 => ?_)
  have H3 := H0 m1 hm2
  refine Wp.aload_n 0 0 d_Reader_read_5 rfl rfl ?_
  obtain ⟨b4, hb5, hB6, H7⟩ := H3
  refine Wp.getR b4 d_Reader_read_6 fl_Reader_22 rfl (Or.inl rfl) rfl hb5 ?_
  obtain ⟨e8, P9, hd10, ho11, H12⟩ := H7
  refine Wq.VV (st := []) [] d_Reader_read_9 k_Board_clear ml_Reader_26 rfl (isB_lay hB6) rfl (fun h => by cases h) (Nat.le_of_ble_eq_true rfl) hd10 ho11 (fun m15 hp16 hw18 => ?_)
  have H13 := H12 m15 hp16 hw18
  refine Wp.aload_n 0 0 d_Reader_read_12 rfl rfl ?_
  refine Wp.iconst d_Reader_read_13 (by decide) ?_
  refine Wq.putZ 3 rfl d_Reader_read_14 fl_Reader_31 (fun _ _ _ h => by cases h; rfl) rfl rfl rfl (by decide) (fun m19 hm20 => ?_)
  have H21 := H13 m19 hm20
  refine Wp.aload_n 0 0 d_Reader_read_17 rfl rfl ?_
  refine Wp.iconst d_Reader_read_18 (by decide) ?_
  refine Wq.putZ 4 rfl d_Reader_read_19 fl_Reader_35 (fun _ _ _ h => by cases h; rfl) rfl rfl rfl (by decide) (fun m22 hm23 => ?_)
  have H24 := H21 m22 hm23
  refine Wp.aload_n 0 0 d_Reader_read_22 rfl rfl ?_
  refine Wp.iconst d_Reader_read_23 (by decide) ?_
  refine Wq.putZ 5 rfl d_Reader_read_24 fl_Reader_38 (fun _ _ _ h => by cases h; rfl) rfl rfl rfl (by decide) (fun m25 hm26 => ?_)
  have H27 := H24 m25 hm26
  refine Wp.aload_n 0 0 d_Reader_read_27 rfl rfl ?_
  refine Wp.iconst d_Reader_read_28 (by decide) ?_
  refine Wq.putI 6 rfl d_Reader_read_29 fl_Reader_41 (fun _ _ _ h => by cases h; rfl) rfl rfl rfl (fun m28 hm29 => ?_)
  have H30 := H27 m28 hm29
  refine Wp.aload_n 0 0 d_Reader_read_32 rfl rfl ?_
  refine Wp.iconst d_Reader_read_33 (by decide) ?_
  refine Wq.putI 7 rfl d_Reader_read_34 fl_Reader_45 (fun _ _ _ h => by cases h; rfl) rfl rfl rfl (fun m31 hm32 => ?_)
  have H33 := H30 m31 hm32
  refine Wp.aload_n 0 0 d_Reader_read_37 rfl rfl ?_
  refine Wp.getP 3 d_Reader_read_38 fl_Reader_12 rfl rfl rfl ?_
  refine Wp.aload_n 1 1 d_Reader_read_41 rfl rfl ?_
  refine Wp.iload_n 2 2 d_Reader_read_42 rfl rfl ?_
  obtain ⟨e34, P35, hd36, ho37, H38⟩ := H33
  refine Wq.VV (st := []) [.inr (.inr h1), .inl x2] d_Reader_read_43 k_Tokens_start ml_Reader_48 rfl rfl rfl (fun h => by cases h) (Nat.le_of_ble_eq_true rfl) hd36 ho37 (fun m41 hp42 hw44 => ?_)
  have H39 := H38 m41 hp42 hw44
  refine Wp.iconst d_Reader_read_46 (by decide) ?_
  refine Wp.istore 4 [(0, .inr (.inr 2)), (1, .inr (.inr h1)), (2, .inl x2), (3, .inr (.inr b3_)), (4, .inl 0)] d_Reader_read_47 (by decide) rfl ?_
  refine Wp.pick [0, 2, 4] [(0, .inr (.inr 2)), (2, .inl x2), (4, .inl 0)] rfl ?_
  exact H39
theorem s_Reader_read_49 {l : Launch} {G : GT} {d : Nat} {P : Int → MM → Prop} {m : MM} (x2 : Int) (x4 : Int)  (H : wfM m → inR x2 → inR x4 → (x4 ≥ 1600 → (((m 2 6) ≠ 0 → (((m 2 6) ≠ 0 → (P 0 m)) ∧ (¬ ((m 2 6) ≠ 0) → (P 1 m)))) ∧ (¬ ((m 2 6) ≠ 0) → (∃ b16 : Nat, m 2 2 = b16 ∧ isB b16 ∧ (∃ (e20 : Nat) (P21 : Int → MM → Prop), e20 < d ∧ CI l G Y_Board_finish e20 [.inr (.inr b16)] m P21 ∧ (∀ z26 m27, P21 z26 m27 → inR z26 → wfM m27 → ((z26 ≠ 0 → (((m27 2 6) ≠ 0 → (P 0 m27)) ∧ (¬ ((m27 2 6) ≠ 0) → (P 1 m27)))) ∧ (¬ (z26 ≠ 0) → (∃ (e41 : Nat) (P42 : MM → Prop), e41 < d ∧ CV l G Y_Reader_tellFault e41 [.inr (.inr 2), .inl 6, .inl x2] m27 P42 ∧ (∀ m48, P42 m48 → wfM m48 → (((m48 2 6) ≠ 0 → (P 0 m48)) ∧ (¬ ((m48 2 6) ≠ 0) → (P 1 m48))))))))))))) ∧ (¬ (x4 ≥ 1600) → (((m 2 6) ≠ 0 → (((m 2 6) ≠ 0 → (((m 2 6) ≠ 0 → (P 0 m)) ∧ (¬ ((m 2 6) ≠ 0) → (P 1 m)))) ∧ (¬ ((m 2 6) ≠ 0) → (∃ b72 : Nat, m 2 2 = b72 ∧ isB b72 ∧ (∃ (e76 : Nat) (P77 : Int → MM → Prop), e76 < d ∧ CI l G Y_Board_finish e76 [.inr (.inr b72)] m P77 ∧ (∀ z82 m83, P77 z82 m83 → inR z82 → wfM m83 → ((z82 ≠ 0 → (((m83 2 6) ≠ 0 → (P 0 m83)) ∧ (¬ ((m83 2 6) ≠ 0) → (P 1 m83)))) ∧ (¬ (z82 ≠ 0) → (∃ (e97 : Nat) (P98 : MM → Prop), e97 < d ∧ CV l G Y_Reader_tellFault e97 [.inr (.inr 2), .inl 6, .inl x2] m83 P98 ∧ (∀ m104, P98 m104 → wfM m104 → (((m104 2 6) ≠ 0 → (P 0 m104)) ∧ (¬ ((m104 2 6) ≠ 0) → (P 1 m104))))))))))))) ∧ (¬ ((m 2 6) ≠ 0) → (((m 3 4) = 0 → (((m 2 6) ≠ 0 → (((m 2 6) ≠ 0 → (P 0 m)) ∧ (¬ ((m 2 6) ≠ 0) → (P 1 m)))) ∧ (¬ ((m 2 6) ≠ 0) → (∃ b128 : Nat, m 2 2 = b128 ∧ isB b128 ∧ (∃ (e132 : Nat) (P133 : Int → MM → Prop), e132 < d ∧ CI l G Y_Board_finish e132 [.inr (.inr b128)] m P133 ∧ (∀ z138 m139, P133 z138 m139 → inR z138 → wfM m139 → ((z138 ≠ 0 → (((m139 2 6) ≠ 0 → (P 0 m139)) ∧ (¬ ((m139 2 6) ≠ 0) → (P 1 m139)))) ∧ (¬ (z138 ≠ 0) → (∃ (e153 : Nat) (P154 : MM → Prop), e153 < d ∧ CV l G Y_Reader_tellFault e153 [.inr (.inr 2), .inl 6, .inl x2] m139 P154 ∧ (∀ m160, P154 m160 → wfM m160 → (((m160 2 6) ≠ 0 → (P 0 m160)) ∧ (¬ ((m160 2 6) ≠ 0) → (P 1 m160))))))))))))) ∧ (¬ ((m 3 4) = 0) → (∃ (e169 : Nat) (P170 : MM → Prop), e169 < d ∧ CV l G Y_Reader_readLine e169 [.inr (.inr 2)] m P170 ∧ (∀ m176, P170 m176 → wfM m176 → ((inR (x4 + 1)) ∧ (Wq l G false Y_Reader_read d (QI P) 49 [(0, .inr (.inr 2)), (2, .inl x2), (4, .inl (x4 + 1))] [] m176)))))))))) : Wq l G false Y_Reader_read d (QI P) 49 [(0, .inr (.inr 2)), (2, .inl x2), (4, .inl x4)] [] m := by
  refine Wp.wf (fun hw _ hl hs => ?_)
  have H0 := H hw (hl _ (List.mem_of_getElem? (i := 1) rfl)) (hl _ (List.mem_of_getElem? (i := 2) rfl))
  refine Wp.iload 2 4 d_Reader_read_49 rfl ?_
  refine Wp.sipush d_Reader_read_51 (by decide) (by decide) ?_
  obtain ⟨H2, H3⟩ := H0
  refine Wp.icmp_ge 84 d_Reader_read_54 (by decide) (fun c1 => ?_) (fun c1 => ?_)
  · have H4 := H2 c1
    refine Wp.aload_n 0 0 d_Reader_read_84 rfl rfl ?_
    refine Wq.getI 6 rfl d_Reader_read_85 fl_Reader_41 rfl (Or.inl rfl) ?_
    obtain ⟨H7, H8⟩ := H4
    refine Wp.if_ne 108 d_Reader_read_88 (by decide) (fun c6 => ?_) (fun c6 => ?_)
    · have H9 := H7 c6
      refine Wp.aload_n 0 0 d_Reader_read_108 rfl rfl ?_
      refine Wq.getI 6 rfl d_Reader_read_109 fl_Reader_41 rfl (Or.inl rfl) ?_
      obtain ⟨H12, H13⟩ := H9
      refine Wp.if_ne 119 d_Reader_read_112 (by decide) (fun c11 => ?_) (fun c11 => ?_)
      · have H14 := H12 c11
        refine Wp.iconst d_Reader_read_119 (by decide) ?_
        exact Wq.zret d_Reader_read_120 rfl (by decide) H14
      · have H15 := H13 c11
        refine Wp.iconst d_Reader_read_115 (by decide) ?_
        refine Wp.goto 120 d_Reader_read_116 (by decide) ?_
        exact Wq.zret d_Reader_read_120 rfl (by decide) H15
    · have H10 := H8 c6
      refine Wp.aload_n 0 0 d_Reader_read_91 rfl rfl ?_
      obtain ⟨b16, hb17, hB18, H19⟩ := H10
      refine Wp.getR b16 d_Reader_read_92 fl_Reader_22 rfl (Or.inl rfl) rfl hb17 ?_
      obtain ⟨e20, P21, hd22, ho23, H24⟩ := H19
      refine Wq.VI (st := []) [] d_Reader_read_95 k_Board_finish ml_Reader_58 rfl (isB_lay hB18) rfl (fun h => by cases h) (Nat.le_of_ble_eq_true rfl) hd22 ho23 (fun z26 m27 hp28 hz29 hw30 => ?_)
      have H25 := H24 z26 m27 hp28 hz29 hw30
      obtain ⟨H32, H33⟩ := H25
      refine Wp.if_ne 108 d_Reader_read_98 (by decide) (fun c31 => ?_) (fun c31 => ?_)
      · have H34 := H32 c31
        refine Wp.aload_n 0 0 d_Reader_read_108 rfl rfl ?_
        refine Wq.getI 6 rfl d_Reader_read_109 fl_Reader_41 rfl (Or.inl rfl) ?_
        obtain ⟨H37, H38⟩ := H34
        refine Wp.if_ne 119 d_Reader_read_112 (by decide) (fun c36 => ?_) (fun c36 => ?_)
        · have H39 := H37 c36
          refine Wp.iconst d_Reader_read_119 (by decide) ?_
          exact Wq.zret d_Reader_read_120 rfl (by decide) H39
        · have H40 := H38 c36
          refine Wp.iconst d_Reader_read_115 (by decide) ?_
          refine Wp.goto 120 d_Reader_read_116 (by decide) ?_
          exact Wq.zret d_Reader_read_120 rfl (by decide) H40
      · have H35 := H33 c31
        refine Wp.aload_n 0 0 d_Reader_read_101 rfl rfl ?_
        refine Wp.bipush d_Reader_read_102 (by decide) (by decide) ?_
        refine Wp.iload_n 1 2 d_Reader_read_104 rfl rfl ?_
        obtain ⟨e41, P42, hd43, ho44, H45⟩ := H35
        refine Wq.VV (st := []) [.inl 6, .inl x2] d_Reader_read_105 k_Reader_tellFault ml_Reader_62 rfl rfl rfl (fun h => by cases h) (Nat.le_of_ble_eq_true rfl) hd43 ho44 (fun m48 hp49 hw51 => ?_)
        have H46 := H45 m48 hp49 hw51
        refine Wp.aload_n 0 0 d_Reader_read_108 rfl rfl ?_
        refine Wq.getI 6 rfl d_Reader_read_109 fl_Reader_41 rfl (Or.inl rfl) ?_
        obtain ⟨H53, H54⟩ := H46
        refine Wp.if_ne 119 d_Reader_read_112 (by decide) (fun c52 => ?_) (fun c52 => ?_)
        · have H55 := H53 c52
          refine Wp.iconst d_Reader_read_119 (by decide) ?_
          exact Wq.zret d_Reader_read_120 rfl (by decide) H55
        · have H56 := H54 c52
          refine Wp.iconst d_Reader_read_115 (by decide) ?_
          refine Wp.goto 120 d_Reader_read_116 (by decide) ?_
          exact Wq.zret d_Reader_read_120 rfl (by decide) H56
  · have H5 := H3 c1
    refine Wp.aload_n 0 0 d_Reader_read_57 rfl rfl ?_
    refine Wq.getI 6 rfl d_Reader_read_58 fl_Reader_41 rfl (Or.inl rfl) ?_
    obtain ⟨H58, H59⟩ := H5
    refine Wp.if_ne 84 d_Reader_read_61 (by decide) (fun c57 => ?_) (fun c57 => ?_)
    · have H60 := H58 c57
      refine Wp.aload_n 0 0 d_Reader_read_84 rfl rfl ?_
      refine Wq.getI 6 rfl d_Reader_read_85 fl_Reader_41 rfl (Or.inl rfl) ?_
      obtain ⟨H63, H64⟩ := H60
      refine Wp.if_ne 108 d_Reader_read_88 (by decide) (fun c62 => ?_) (fun c62 => ?_)
      · have H65 := H63 c62
        refine Wp.aload_n 0 0 d_Reader_read_108 rfl rfl ?_
        refine Wq.getI 6 rfl d_Reader_read_109 fl_Reader_41 rfl (Or.inl rfl) ?_
        obtain ⟨H68, H69⟩ := H65
        refine Wp.if_ne 119 d_Reader_read_112 (by decide) (fun c67 => ?_) (fun c67 => ?_)
        · have H70 := H68 c67
          refine Wp.iconst d_Reader_read_119 (by decide) ?_
          exact Wq.zret d_Reader_read_120 rfl (by decide) H70
        · have H71 := H69 c67
          refine Wp.iconst d_Reader_read_115 (by decide) ?_
          refine Wp.goto 120 d_Reader_read_116 (by decide) ?_
          exact Wq.zret d_Reader_read_120 rfl (by decide) H71
      · have H66 := H64 c62
        refine Wp.aload_n 0 0 d_Reader_read_91 rfl rfl ?_
        obtain ⟨b72, hb73, hB74, H75⟩ := H66
        refine Wp.getR b72 d_Reader_read_92 fl_Reader_22 rfl (Or.inl rfl) rfl hb73 ?_
        obtain ⟨e76, P77, hd78, ho79, H80⟩ := H75
        refine Wq.VI (st := []) [] d_Reader_read_95 k_Board_finish ml_Reader_58 rfl (isB_lay hB74) rfl (fun h => by cases h) (Nat.le_of_ble_eq_true rfl) hd78 ho79 (fun z82 m83 hp84 hz85 hw86 => ?_)
        have H81 := H80 z82 m83 hp84 hz85 hw86
        obtain ⟨H88, H89⟩ := H81
        refine Wp.if_ne 108 d_Reader_read_98 (by decide) (fun c87 => ?_) (fun c87 => ?_)
        · have H90 := H88 c87
          refine Wp.aload_n 0 0 d_Reader_read_108 rfl rfl ?_
          refine Wq.getI 6 rfl d_Reader_read_109 fl_Reader_41 rfl (Or.inl rfl) ?_
          obtain ⟨H93, H94⟩ := H90
          refine Wp.if_ne 119 d_Reader_read_112 (by decide) (fun c92 => ?_) (fun c92 => ?_)
          · have H95 := H93 c92
            refine Wp.iconst d_Reader_read_119 (by decide) ?_
            exact Wq.zret d_Reader_read_120 rfl (by decide) H95
          · have H96 := H94 c92
            refine Wp.iconst d_Reader_read_115 (by decide) ?_
            refine Wp.goto 120 d_Reader_read_116 (by decide) ?_
            exact Wq.zret d_Reader_read_120 rfl (by decide) H96
        · have H91 := H89 c87
          refine Wp.aload_n 0 0 d_Reader_read_101 rfl rfl ?_
          refine Wp.bipush d_Reader_read_102 (by decide) (by decide) ?_
          refine Wp.iload_n 1 2 d_Reader_read_104 rfl rfl ?_
          obtain ⟨e97, P98, hd99, ho100, H101⟩ := H91
          refine Wq.VV (st := []) [.inl 6, .inl x2] d_Reader_read_105 k_Reader_tellFault ml_Reader_62 rfl rfl rfl (fun h => by cases h) (Nat.le_of_ble_eq_true rfl) hd99 ho100 (fun m104 hp105 hw107 => ?_)
          have H102 := H101 m104 hp105 hw107
          refine Wp.aload_n 0 0 d_Reader_read_108 rfl rfl ?_
          refine Wq.getI 6 rfl d_Reader_read_109 fl_Reader_41 rfl (Or.inl rfl) ?_
          obtain ⟨H109, H110⟩ := H102
          refine Wp.if_ne 119 d_Reader_read_112 (by decide) (fun c108 => ?_) (fun c108 => ?_)
          · have H111 := H109 c108
            refine Wp.iconst d_Reader_read_119 (by decide) ?_
            exact Wq.zret d_Reader_read_120 rfl (by decide) H111
          · have H112 := H110 c108
            refine Wp.iconst d_Reader_read_115 (by decide) ?_
            refine Wp.goto 120 d_Reader_read_116 (by decide) ?_
            exact Wq.zret d_Reader_read_120 rfl (by decide) H112
    · have H61 := H59 c57
      refine Wp.aload_n 0 0 d_Reader_read_64 rfl rfl ?_
      refine Wp.getP 3 d_Reader_read_65 fl_Reader_12 rfl rfl rfl ?_
      refine Wq.getI 4 rfl d_Reader_read_68 fl_Reader_52 rfl (Or.inl rfl) ?_
      obtain ⟨H114, H115⟩ := H61
      refine Wp.if_eq 84 d_Reader_read_71 (by decide) (fun c113 => ?_) (fun c113 => ?_)
      · have H116 := H114 c113
        refine Wp.aload_n 0 0 d_Reader_read_84 rfl rfl ?_
        refine Wq.getI 6 rfl d_Reader_read_85 fl_Reader_41 rfl (Or.inl rfl) ?_
        obtain ⟨H119, H120⟩ := H116
        refine Wp.if_ne 108 d_Reader_read_88 (by decide) (fun c118 => ?_) (fun c118 => ?_)
        · have H121 := H119 c118
          refine Wp.aload_n 0 0 d_Reader_read_108 rfl rfl ?_
          refine Wq.getI 6 rfl d_Reader_read_109 fl_Reader_41 rfl (Or.inl rfl) ?_
          obtain ⟨H124, H125⟩ := H121
          refine Wp.if_ne 119 d_Reader_read_112 (by decide) (fun c123 => ?_) (fun c123 => ?_)
          · have H126 := H124 c123
            refine Wp.iconst d_Reader_read_119 (by decide) ?_
            exact Wq.zret d_Reader_read_120 rfl (by decide) H126
          · have H127 := H125 c123
            refine Wp.iconst d_Reader_read_115 (by decide) ?_
            refine Wp.goto 120 d_Reader_read_116 (by decide) ?_
            exact Wq.zret d_Reader_read_120 rfl (by decide) H127
        · have H122 := H120 c118
          refine Wp.aload_n 0 0 d_Reader_read_91 rfl rfl ?_
          obtain ⟨b128, hb129, hB130, H131⟩ := H122
          refine Wp.getR b128 d_Reader_read_92 fl_Reader_22 rfl (Or.inl rfl) rfl hb129 ?_
          obtain ⟨e132, P133, hd134, ho135, H136⟩ := H131
          refine Wq.VI (st := []) [] d_Reader_read_95 k_Board_finish ml_Reader_58 rfl (isB_lay hB130) rfl (fun h => by cases h) (Nat.le_of_ble_eq_true rfl) hd134 ho135 (fun z138 m139 hp140 hz141 hw142 => ?_)
          have H137 := H136 z138 m139 hp140 hz141 hw142
          obtain ⟨H144, H145⟩ := H137
          refine Wp.if_ne 108 d_Reader_read_98 (by decide) (fun c143 => ?_) (fun c143 => ?_)
          · have H146 := H144 c143
            refine Wp.aload_n 0 0 d_Reader_read_108 rfl rfl ?_
            refine Wq.getI 6 rfl d_Reader_read_109 fl_Reader_41 rfl (Or.inl rfl) ?_
            obtain ⟨H149, H150⟩ := H146
            refine Wp.if_ne 119 d_Reader_read_112 (by decide) (fun c148 => ?_) (fun c148 => ?_)
            · have H151 := H149 c148
              refine Wp.iconst d_Reader_read_119 (by decide) ?_
              exact Wq.zret d_Reader_read_120 rfl (by decide) H151
            · have H152 := H150 c148
              refine Wp.iconst d_Reader_read_115 (by decide) ?_
              refine Wp.goto 120 d_Reader_read_116 (by decide) ?_
              exact Wq.zret d_Reader_read_120 rfl (by decide) H152
          · have H147 := H145 c143
            refine Wp.aload_n 0 0 d_Reader_read_101 rfl rfl ?_
            refine Wp.bipush d_Reader_read_102 (by decide) (by decide) ?_
            refine Wp.iload_n 1 2 d_Reader_read_104 rfl rfl ?_
            obtain ⟨e153, P154, hd155, ho156, H157⟩ := H147
            refine Wq.VV (st := []) [.inl 6, .inl x2] d_Reader_read_105 k_Reader_tellFault ml_Reader_62 rfl rfl rfl (fun h => by cases h) (Nat.le_of_ble_eq_true rfl) hd155 ho156 (fun m160 hp161 hw163 => ?_)
            have H158 := H157 m160 hp161 hw163
            refine Wp.aload_n 0 0 d_Reader_read_108 rfl rfl ?_
            refine Wq.getI 6 rfl d_Reader_read_109 fl_Reader_41 rfl (Or.inl rfl) ?_
            obtain ⟨H165, H166⟩ := H158
            refine Wp.if_ne 119 d_Reader_read_112 (by decide) (fun c164 => ?_) (fun c164 => ?_)
            · have H167 := H165 c164
              refine Wp.iconst d_Reader_read_119 (by decide) ?_
              exact Wq.zret d_Reader_read_120 rfl (by decide) H167
            · have H168 := H166 c164
              refine Wp.iconst d_Reader_read_115 (by decide) ?_
              refine Wp.goto 120 d_Reader_read_116 (by decide) ?_
              exact Wq.zret d_Reader_read_120 rfl (by decide) H168
      · have H117 := H115 c113
        refine Wp.aload_n 0 0 d_Reader_read_74 rfl rfl ?_
        obtain ⟨e169, P170, hd171, ho172, H173⟩ := H117
        refine Wq.VV (st := []) [] d_Reader_read_75 k_Reader_readLine ml_Reader_55 rfl rfl rfl (fun h => by cases h) (Nat.le_of_ble_eq_true rfl) hd171 ho172 (fun m176 hp177 hw179 => ?_)
        have H174 := H173 m176 hp177 hw179
        obtain ⟨s180, H181⟩ := H174
        refine Wp.iinc 2 4 [(0, .inr (.inr 2)), (2, .inl x2), (4, .inl (x4 + 1))] d_Reader_read_78 rfl s180 (by decide) rfl ?_
        refine Wp.goto 49 d_Reader_read_81 (by decide) ?_
        exact H181
theorem d_Reader_readLine_0 : decode Y_Reader_readLine.2.1 0 = .ok (.aload_n 0, 1) := by decide +kernel
theorem d_Reader_readLine_1 : decode Y_Reader_readLine.2.1 1 = .ok (.getfield 12, 3) := by decide +kernel
theorem d_Reader_readLine_4 : decode Y_Reader_readLine.2.1 4 = .ok (.getfield 52, 3) := by decide +kernel
theorem d_Reader_readLine_7 : decode Y_Reader_readLine.2.1 7 = .ok (.istore_n 1, 1) := by decide +kernel
theorem d_Reader_readLine_8 : decode Y_Reader_readLine.2.1 8 = .ok (.aload_n 0, 1) := by decide +kernel
theorem d_Reader_readLine_9 : decode Y_Reader_readLine.2.1 9 = .ok (.iload_n 1, 1) := by decide +kernel
theorem d_Reader_readLine_10 : decode Y_Reader_readLine.2.1 10 = .ok (.invokevirtual 69, 3) := by decide +kernel
theorem d_Reader_readLine_13 : decode Y_Reader_readLine.2.1 13 = .ok (.ifCond .ne 8, 3) := by decide +kernel
theorem d_Reader_readLine_16 : decode Y_Reader_readLine.2.1 16 = .ok (.aload_n 0, 1) := by decide +kernel
theorem d_Reader_readLine_17 : decode Y_Reader_readLine.2.1 17 = .ok (.invokevirtual 73, 3) := by decide +kernel
theorem d_Reader_readLine_20 : decode Y_Reader_readLine.2.1 20 = .ok (.return_, 1) := by decide +kernel
theorem d_Reader_readLine_21 : decode Y_Reader_readLine.2.1 21 = .ok (.aload_n 0, 1) := by decide +kernel
theorem d_Reader_readLine_22 : decode Y_Reader_readLine.2.1 22 = .ok (.getfield 12, 3) := by decide +kernel
theorem d_Reader_readLine_25 : decode Y_Reader_readLine.2.1 25 = .ok (.invokevirtual 76, 3) := by decide +kernel
theorem d_Reader_readLine_28 : decode Y_Reader_readLine.2.1 28 = .ok (.iload_n 1, 1) := by decide +kernel
theorem d_Reader_readLine_29 : decode Y_Reader_readLine.2.1 29 = .ok (.tableswitch 99 100 106 #[43, 99, 50, 99, 57, 64, 77], 43) := by decide +kernel
theorem d_Reader_readLine_72 : decode Y_Reader_readLine.2.1 72 = .ok (.aload_n 0, 1) := by decide +kernel
theorem d_Reader_readLine_73 : decode Y_Reader_readLine.2.1 73 = .ok (.invokevirtual 79, 3) := by decide +kernel
theorem d_Reader_readLine_76 : decode Y_Reader_readLine.2.1 76 = .ok (.goto 72, 3) := by decide +kernel
theorem d_Reader_readLine_79 : decode Y_Reader_readLine.2.1 79 = .ok (.aload_n 0, 1) := by decide +kernel
theorem d_Reader_readLine_80 : decode Y_Reader_readLine.2.1 80 = .ok (.invokevirtual 82, 3) := by decide +kernel
theorem d_Reader_readLine_83 : decode Y_Reader_readLine.2.1 83 = .ok (.goto 65, 3) := by decide +kernel
theorem d_Reader_readLine_86 : decode Y_Reader_readLine.2.1 86 = .ok (.aload_n 0, 1) := by decide +kernel
theorem d_Reader_readLine_87 : decode Y_Reader_readLine.2.1 87 = .ok (.invokevirtual 85, 3) := by decide +kernel
theorem d_Reader_readLine_90 : decode Y_Reader_readLine.2.1 90 = .ok (.goto 58, 3) := by decide +kernel
theorem d_Reader_readLine_93 : decode Y_Reader_readLine.2.1 93 = .ok (.aload_n 0, 1) := by decide +kernel
theorem d_Reader_readLine_94 : decode Y_Reader_readLine.2.1 94 = .ok (.iconst 1, 1) := by decide +kernel
theorem d_Reader_readLine_95 : decode Y_Reader_readLine.2.1 95 = .ok (.putfield 31, 3) := by decide +kernel
theorem d_Reader_readLine_98 : decode Y_Reader_readLine.2.1 98 = .ok (.aload_n 0, 1) := by decide +kernel
theorem d_Reader_readLine_99 : decode Y_Reader_readLine.2.1 99 = .ok (.iconst 0, 1) := by decide +kernel
theorem d_Reader_readLine_100 : decode Y_Reader_readLine.2.1 100 = .ok (.invokevirtual 88, 3) := by decide +kernel
theorem d_Reader_readLine_103 : decode Y_Reader_readLine.2.1 103 = .ok (.goto 45, 3) := by decide +kernel
theorem d_Reader_readLine_106 : decode Y_Reader_readLine.2.1 106 = .ok (.aload_n 0, 1) := by decide +kernel
theorem d_Reader_readLine_107 : decode Y_Reader_readLine.2.1 107 = .ok (.iconst 1, 1) := by decide +kernel
theorem d_Reader_readLine_108 : decode Y_Reader_readLine.2.1 108 = .ok (.putfield 35, 3) := by decide +kernel
theorem d_Reader_readLine_111 : decode Y_Reader_readLine.2.1 111 = .ok (.aload_n 0, 1) := by decide +kernel
theorem d_Reader_readLine_112 : decode Y_Reader_readLine.2.1 112 = .ok (.getfield 22, 3) := by decide +kernel
theorem d_Reader_readLine_115 : decode Y_Reader_readLine.2.1 115 = .ok (.aload_n 0, 1) := by decide +kernel
theorem d_Reader_readLine_116 : decode Y_Reader_readLine.2.1 116 = .ok (.iconst 0, 1) := by decide +kernel
theorem d_Reader_readLine_117 : decode Y_Reader_readLine.2.1 117 = .ok (.bipush 100, 2) := by decide +kernel
theorem d_Reader_readLine_119 : decode Y_Reader_readLine.2.1 119 = .ok (.invokevirtual 92, 3) := by decide +kernel
theorem d_Reader_readLine_122 : decode Y_Reader_readLine.2.1 122 = .ok (.putfield 96, 3) := by decide +kernel
theorem d_Reader_readLine_125 : decode Y_Reader_readLine.2.1 125 = .ok (.goto 23, 3) := by decide +kernel
theorem d_Reader_readLine_128 : decode Y_Reader_readLine.2.1 128 = .ok (.aload_n 0, 1) := by decide +kernel
theorem d_Reader_readLine_129 : decode Y_Reader_readLine.2.1 129 = .ok (.iconst 1, 1) := by decide +kernel
theorem d_Reader_readLine_130 : decode Y_Reader_readLine.2.1 130 = .ok (.putfield 38, 3) := by decide +kernel
theorem d_Reader_readLine_133 : decode Y_Reader_readLine.2.1 133 = .ok (.aload_n 0, 1) := by decide +kernel
theorem d_Reader_readLine_134 : decode Y_Reader_readLine.2.1 134 = .ok (.getfield 22, 3) := by decide +kernel
theorem d_Reader_readLine_137 : decode Y_Reader_readLine.2.1 137 = .ok (.aload_n 0, 1) := by decide +kernel
theorem d_Reader_readLine_138 : decode Y_Reader_readLine.2.1 138 = .ok (.iconst 0, 1) := by decide +kernel
theorem d_Reader_readLine_139 : decode Y_Reader_readLine.2.1 139 = .ok (.sipush 999, 3) := by decide +kernel
theorem d_Reader_readLine_142 : decode Y_Reader_readLine.2.1 142 = .ok (.invokevirtual 92, 3) := by decide +kernel
theorem d_Reader_readLine_145 : decode Y_Reader_readLine.2.1 145 = .ok (.putfield 99, 3) := by decide +kernel
theorem d_Reader_readLine_148 : decode Y_Reader_readLine.2.1 148 = .ok (.aload_n 0, 1) := by decide +kernel
theorem d_Reader_readLine_149 : decode Y_Reader_readLine.2.1 149 = .ok (.bipush 59, 2) := by decide +kernel
theorem d_Reader_readLine_151 : decode Y_Reader_readLine.2.1 151 = .ok (.invokevirtual 102, 3) := by decide +kernel
theorem d_Reader_readLine_154 : decode Y_Reader_readLine.2.1 154 = .ok (.return_, 1) := by decide +kernel
theorem e_Reader_readLine {l : Launch} {G : GT} {d : Nat} {P : MM → Prop} {m : MM}   (H : wfM m → ∃ (e1 : Nat) (P2 : Int → MM → Prop), e1 < d ∧ CI l G Y_Reader_canBegin e1 [.inr (.inr 2), .inl (m 3 4)] m P2 ∧ (∀ z7 m8, P2 z7 m8 → inR z7 → wfM m8 → ((z7 ≠ 0 → (∃ (e17 : Nat) (P18 : MM → Prop), e17 < d ∧ CV l G Y_Tokens_next e17 [.inr (.inr 3)] m8 P18 ∧ (∀ m24, P18 m24 → wfM m24 → (((m 3 4) = 100 → (∃ (e32 : Nat) (P33 : MM → Prop), e32 < d ∧ CV l G Y_Reader_readPlate e32 [.inr (.inr 2)] m24 P33 ∧ (∀ m39, P33 m39 → wfM m39 → (∃ (e43 : Nat) (P44 : MM → Prop), e43 < d ∧ CV l G Y_Reader_expect e43 [.inr (.inr 2), .inl 59] m39 P44 ∧ (∀ m50, P44 m50 → wfM m50 → (P m50)))))) ∧ ((m 3 4) = 102 → (∃ (e58 : Nat) (P59 : MM → Prop), e58 < d ∧ CV l G Y_Reader_readChute e58 [.inr (.inr 2)] m24 P59 ∧ (∀ m65, P59 m65 → wfM m65 → (∃ (e69 : Nat) (P70 : MM → Prop), e69 < d ∧ CV l G Y_Reader_expect e69 [.inr (.inr 2), .inl 59] m65 P70 ∧ (∀ m76, P70 m76 → wfM m76 → (P m76)))))) ∧ ((m 3 4) = 104 → (∃ (e84 : Nat) (P85 : MM → Prop), e84 < d ∧ CV l G Y_Reader_readDrain e84 [.inr (.inr 2)] m24 P85 ∧ (∀ m91, P85 m91 → wfM m91 → (∃ (e95 : Nat) (P96 : MM → Prop), e95 < d ∧ CV l G Y_Reader_expect e95 [.inr (.inr 2), .inl 59] m91 P96 ∧ (∀ m102, P96 m102 → wfM m102 → (P m102)))))) ∧ ((m 3 4) = 105 → (∀ m110, m110 = up m24 2 3 1 → (∃ (e113 : Nat) (P114 : MM → Prop), e113 < d ∧ CV l G Y_Reader_readEither e113 [.inr (.inr 2), .inl 0] m110 P114 ∧ (∀ m120, P114 m120 → wfM m120 → (∃ (e124 : Nat) (P125 : MM → Prop), e124 < d ∧ CV l G Y_Reader_expect e124 [.inr (.inr 2), .inl 59] m120 P125 ∧ (∀ m131, P125 m131 → wfM m131 → (P m131))))))) ∧ ((m 3 4) = 106 → (∀ m139, m139 = up m24 2 4 1 → (∃ b142 : Nat, m139 2 2 = b142 ∧ isB b142 ∧ (∃ (e146 : Nat) (P147 : Int → MM → Prop), e146 < d ∧ CI l G Y_Reader_readNumber e146 [.inr (.inr 2), .inl 0, .inl 100] m139 P147 ∧ (∀ z152 m153, P147 z152 m153 → inR z152 → wfM m153 → (∀ m157, m157 = up m153 b142 2 z152 → (∃ (e160 : Nat) (P161 : MM → Prop), e160 < d ∧ CV l G Y_Reader_expect e160 [.inr (.inr 2), .inl 59] m157 P161 ∧ (∀ m167, P161 m167 → wfM m167 → (P m167))))))))) ∧ (¬ ((m 3 4) = 100) → ¬ ((m 3 4) = 102) → ¬ ((m 3 4) = 104) → ¬ ((m 3 4) = 105) → ¬ ((m 3 4) = 106) → (∀ m172, m172 = up m24 2 5 1 → (∃ b175 : Nat, m172 2 2 = b175 ∧ isB b175 ∧ (∃ (e179 : Nat) (P180 : Int → MM → Prop), e179 < d ∧ CI l G Y_Reader_readNumber e179 [.inr (.inr 2), .inl 0, .inl 999] m172 P180 ∧ (∀ z185 m186, P180 z185 m186 → inR z185 → wfM m186 → (∀ m190, m190 = up m186 b175 3 z185 → (∃ (e193 : Nat) (P194 : MM → Prop), e193 < d ∧ CV l G Y_Reader_expect e193 [.inr (.inr 2), .inl 59] m190 P194 ∧ (∀ m200, P194 m200 → wfM m200 → (P m200))))))))))))) ∧ (¬ (z7 ≠ 0) → (∃ (e207 : Nat) (P208 : MM → Prop), e207 < d ∧ CV l G Y_Reader_refuseToken e207 [.inr (.inr 2)] m8 P208 ∧ (∀ m214, P208 m214 → wfM m214 → (P m214))))))) : CV l G Y_Reader_readLine d [.inr (.inr 2)] m P := by
  refine CV.of [(0, .inr (.inr 2))] k_Reader_readLine.1 (Nat.le_of_ble_eq_true rfl) rfl (Wp.wf (fun hw _ hl hs => ?_))
  have H0 := H hw
  refine Wp.aload_n 0 0 d_Reader_readLine_0 rfl rfl ?_
  refine Wp.getP 3 d_Reader_readLine_1 fl_Reader_12 rfl rfl rfl ?_
  refine Wq.getI 4 rfl d_Reader_readLine_4 fl_Reader_52 rfl (Or.inl rfl) ?_
  refine Wp.istore_n 1 [(0, .inr (.inr 2)), (1, .inl (m 3 4))] d_Reader_readLine_7 rfl (by decide) rfl ?_
  refine Wp.aload_n 0 0 d_Reader_readLine_8 rfl rfl ?_
  refine Wp.iload_n 1 1 d_Reader_readLine_9 rfl rfl ?_
  obtain ⟨e1, P2, hd3, ho4, H5⟩ := H0
  refine Wq.VI (st := []) [.inl (m 3 4)] d_Reader_readLine_10 k_Reader_canBegin ml_Reader_69 rfl rfl rfl (fun h => by cases h) (Nat.le_of_ble_eq_true rfl) hd3 ho4 (fun z7 m8 hp9 hz10 hw11 => ?_)
  have H6 := H5 z7 m8 hp9 hz10 hw11
  obtain ⟨H13, H14⟩ := H6
  refine Wp.if_ne 21 d_Reader_readLine_13 (by decide) (fun c12 => ?_) (fun c12 => ?_)
  · have H15 := H13 c12
    refine Wp.aload_n 0 0 d_Reader_readLine_21 rfl rfl ?_
    refine Wp.getP 3 d_Reader_readLine_22 fl_Reader_12 rfl rfl rfl ?_
    obtain ⟨e17, P18, hd19, ho20, H21⟩ := H15
    refine Wq.VV (st := []) [] d_Reader_readLine_25 k_Tokens_next ml_Reader_76 rfl rfl rfl (fun h => by cases h) (Nat.le_of_ble_eq_true rfl) hd19 ho20 (fun m24 hp25 hw27 => ?_)
    have H22 := H21 m24 hp25 hw27
    refine Wp.iload_n 1 1 d_Reader_readLine_28 rfl rfl ?_
    obtain ⟨H28, H29⟩ := H22
    by_cases c30 : (m 3 4) = 100
    · have H31 := H28 c30
      refine Wp.tin (off := 43) 100 72 d_Reader_readLine_29 c30 (by decide +kernel) (by decide +kernel) (by decide +kernel) (by decide +kernel) ?_
      refine Wp.aload_n 0 0 d_Reader_readLine_72 rfl rfl ?_
      obtain ⟨e32, P33, hd34, ho35, H36⟩ := H31
      refine Wq.VV (st := []) [] d_Reader_readLine_73 k_Reader_readPlate ml_Reader_79 rfl rfl rfl (fun h => by cases h) (Nat.le_of_ble_eq_true rfl) hd34 ho35 (fun m39 hp40 hw42 => ?_)
      have H37 := H36 m39 hp40 hw42
      refine Wp.goto 148 d_Reader_readLine_76 (by decide) ?_
      refine Wp.aload_n 0 0 d_Reader_readLine_148 rfl rfl ?_
      refine Wp.bipush d_Reader_readLine_149 (by decide) (by decide) ?_
      obtain ⟨e43, P44, hd45, ho46, H47⟩ := H37
      refine Wq.VV (st := []) [.inl 59] d_Reader_readLine_151 k_Reader_expect ml_Reader_102 rfl rfl rfl (fun h => by cases h) (Nat.le_of_ble_eq_true rfl) hd45 ho46 (fun m50 hp51 hw53 => ?_)
      have H48 := H47 m50 hp51 hw53
      exact Wq.vret d_Reader_readLine_154 rfl H48
    obtain ⟨H54, H55⟩ := H29
    by_cases c56 : (m 3 4) = 102
    · have H57 := H54 c56
      refine Wp.tin (off := 50) 102 79 d_Reader_readLine_29 c56 (by decide +kernel) (by decide +kernel) (by decide +kernel) (by decide +kernel) ?_
      refine Wp.aload_n 0 0 d_Reader_readLine_79 rfl rfl ?_
      obtain ⟨e58, P59, hd60, ho61, H62⟩ := H57
      refine Wq.VV (st := []) [] d_Reader_readLine_80 k_Reader_readChute ml_Reader_82 rfl rfl rfl (fun h => by cases h) (Nat.le_of_ble_eq_true rfl) hd60 ho61 (fun m65 hp66 hw68 => ?_)
      have H63 := H62 m65 hp66 hw68
      refine Wp.goto 148 d_Reader_readLine_83 (by decide) ?_
      refine Wp.aload_n 0 0 d_Reader_readLine_148 rfl rfl ?_
      refine Wp.bipush d_Reader_readLine_149 (by decide) (by decide) ?_
      obtain ⟨e69, P70, hd71, ho72, H73⟩ := H63
      refine Wq.VV (st := []) [.inl 59] d_Reader_readLine_151 k_Reader_expect ml_Reader_102 rfl rfl rfl (fun h => by cases h) (Nat.le_of_ble_eq_true rfl) hd71 ho72 (fun m76 hp77 hw79 => ?_)
      have H74 := H73 m76 hp77 hw79
      exact Wq.vret d_Reader_readLine_154 rfl H74
    obtain ⟨H80, H81⟩ := H55
    by_cases c82 : (m 3 4) = 104
    · have H83 := H80 c82
      refine Wp.tin (off := 57) 104 86 d_Reader_readLine_29 c82 (by decide +kernel) (by decide +kernel) (by decide +kernel) (by decide +kernel) ?_
      refine Wp.aload_n 0 0 d_Reader_readLine_86 rfl rfl ?_
      obtain ⟨e84, P85, hd86, ho87, H88⟩ := H83
      refine Wq.VV (st := []) [] d_Reader_readLine_87 k_Reader_readDrain ml_Reader_85 rfl rfl rfl (fun h => by cases h) (Nat.le_of_ble_eq_true rfl) hd86 ho87 (fun m91 hp92 hw94 => ?_)
      have H89 := H88 m91 hp92 hw94
      refine Wp.goto 148 d_Reader_readLine_90 (by decide) ?_
      refine Wp.aload_n 0 0 d_Reader_readLine_148 rfl rfl ?_
      refine Wp.bipush d_Reader_readLine_149 (by decide) (by decide) ?_
      obtain ⟨e95, P96, hd97, ho98, H99⟩ := H89
      refine Wq.VV (st := []) [.inl 59] d_Reader_readLine_151 k_Reader_expect ml_Reader_102 rfl rfl rfl (fun h => by cases h) (Nat.le_of_ble_eq_true rfl) hd97 ho98 (fun m102 hp103 hw105 => ?_)
      have H100 := H99 m102 hp103 hw105
      exact Wq.vret d_Reader_readLine_154 rfl H100
    obtain ⟨H106, H107⟩ := H81
    by_cases c108 : (m 3 4) = 105
    · have H109 := H106 c108
      refine Wp.tin (off := 64) 105 93 d_Reader_readLine_29 c108 (by decide +kernel) (by decide +kernel) (by decide +kernel) (by decide +kernel) ?_
      refine Wp.aload_n 0 0 d_Reader_readLine_93 rfl rfl ?_
      refine Wp.iconst d_Reader_readLine_94 (by decide) ?_
      refine Wq.putZ 3 rfl d_Reader_readLine_95 fl_Reader_31 (fun _ _ _ h => by cases h; rfl) rfl rfl rfl (by decide) (fun m110 hm111 => ?_)
      have H112 := H109 m110 hm111
      refine Wp.aload_n 0 0 d_Reader_readLine_98 rfl rfl ?_
      refine Wp.iconst d_Reader_readLine_99 (by decide) ?_
      obtain ⟨e113, P114, hd115, ho116, H117⟩ := H112
      refine Wq.VV (st := []) [.inl 0] d_Reader_readLine_100 k_Reader_readEither ml_Reader_88 rfl rfl rfl (fun h => by cases h) (Nat.le_of_ble_eq_true rfl) hd115 ho116 (fun m120 hp121 hw123 => ?_)
      have H118 := H117 m120 hp121 hw123
      refine Wp.goto 148 d_Reader_readLine_103 (by decide) ?_
      refine Wp.aload_n 0 0 d_Reader_readLine_148 rfl rfl ?_
      refine Wp.bipush d_Reader_readLine_149 (by decide) (by decide) ?_
      obtain ⟨e124, P125, hd126, ho127, H128⟩ := H118
      refine Wq.VV (st := []) [.inl 59] d_Reader_readLine_151 k_Reader_expect ml_Reader_102 rfl rfl rfl (fun h => by cases h) (Nat.le_of_ble_eq_true rfl) hd126 ho127 (fun m131 hp132 hw134 => ?_)
      have H129 := H128 m131 hp132 hw134
      exact Wq.vret d_Reader_readLine_154 rfl H129
    obtain ⟨H135, H136⟩ := H107
    by_cases c137 : (m 3 4) = 106
    · have H138 := H135 c137
      refine Wp.tin (off := 77) 106 106 d_Reader_readLine_29 c137 (by decide +kernel) (by decide +kernel) (by decide +kernel) (by decide +kernel) ?_
      refine Wp.aload_n 0 0 d_Reader_readLine_106 rfl rfl ?_
      refine Wp.iconst d_Reader_readLine_107 (by decide) ?_
      refine Wq.putZ 4 rfl d_Reader_readLine_108 fl_Reader_35 (fun _ _ _ h => by cases h; rfl) rfl rfl rfl (by decide) (fun m139 hm140 => ?_)
      have H141 := H138 m139 hm140
      refine Wp.aload_n 0 0 d_Reader_readLine_111 rfl rfl ?_
      obtain ⟨b142, hb143, hB144, H145⟩ := H141
      refine Wp.getR b142 d_Reader_readLine_112 fl_Reader_22 rfl (Or.inl rfl) rfl hb143 ?_
      refine Wp.aload_n 0 0 d_Reader_readLine_115 rfl rfl ?_
      refine Wp.iconst d_Reader_readLine_116 (by decide) ?_
      refine Wp.bipush d_Reader_readLine_117 (by decide) (by decide) ?_
      obtain ⟨e146, P147, hd148, ho149, H150⟩ := H145
      refine Wq.VI (st := [.inr (.inr b142)]) [.inl 0, .inl 100] d_Reader_readLine_119 k_Reader_readNumber ml_Reader_92 rfl rfl rfl (fun h => by cases h) (Nat.le_of_ble_eq_true rfl) hd148 ho149 (fun z152 m153 hp154 hz155 hw156 => ?_)
      have H151 := H150 z152 m153 hp154 hz155 hw156
      refine Wq.putI 2 rfl d_Reader_readLine_122 fl_Reader_96 (fun _ _ _ h => by cases h; rfl) (isB_lay hB144) (isB_n2 hB144) rfl (fun m157 hm158 => ?_)
      have H159 := H151 m157 hm158
      refine Wp.goto 148 d_Reader_readLine_125 (by decide) ?_
      refine Wp.aload_n 0 0 d_Reader_readLine_148 rfl rfl ?_
      refine Wp.bipush d_Reader_readLine_149 (by decide) (by decide) ?_
      obtain ⟨e160, P161, hd162, ho163, H164⟩ := H159
      refine Wq.VV (st := []) [.inl 59] d_Reader_readLine_151 k_Reader_expect ml_Reader_102 rfl rfl rfl (fun h => by cases h) (Nat.le_of_ble_eq_true rfl) hd162 ho163 (fun m167 hp168 hw170 => ?_)
      have H165 := H164 m167 hp168 hw170
      exact Wq.vret d_Reader_readLine_154 rfl H165
    have H171 := H136 c30 c56 c82 c108 c137
    have hd204 : Wq l G false Y_Reader_readLine d (QV P) 128 [(0, .inr (.inr 2)), (1, .inl (m 3 4))] [] m24 := by
      refine Wp.aload_n 0 0 d_Reader_readLine_128 rfl rfl ?_
      refine Wp.iconst d_Reader_readLine_129 (by decide) ?_
      refine Wq.putZ 5 rfl d_Reader_readLine_130 fl_Reader_38 (fun _ _ _ h => by cases h; rfl) rfl rfl rfl (by decide) (fun m172 hm173 => ?_)
      have H174 := H171 m172 hm173
      refine Wp.aload_n 0 0 d_Reader_readLine_133 rfl rfl ?_
      obtain ⟨b175, hb176, hB177, H178⟩ := H174
      refine Wp.getR b175 d_Reader_readLine_134 fl_Reader_22 rfl (Or.inl rfl) rfl hb176 ?_
      refine Wp.aload_n 0 0 d_Reader_readLine_137 rfl rfl ?_
      refine Wp.iconst d_Reader_readLine_138 (by decide) ?_
      refine Wp.sipush d_Reader_readLine_139 (by decide) (by decide) ?_
      obtain ⟨e179, P180, hd181, ho182, H183⟩ := H178
      refine Wq.VI (st := [.inr (.inr b175)]) [.inl 0, .inl 999] d_Reader_readLine_142 k_Reader_readNumber ml_Reader_92 rfl rfl rfl (fun h => by cases h) (Nat.le_of_ble_eq_true rfl) hd181 ho182 (fun z185 m186 hp187 hz188 hw189 => ?_)
      have H184 := H183 z185 m186 hp187 hz188 hw189
      refine Wq.putI 3 rfl d_Reader_readLine_145 fl_Reader_99 (fun _ _ _ h => by cases h; rfl) (isB_lay hB177) (isB_n3 hB177) rfl (fun m190 hm191 => ?_)
      have H192 := H184 m190 hm191
      refine Wp.aload_n 0 0 d_Reader_readLine_148 rfl rfl ?_
      refine Wp.bipush d_Reader_readLine_149 (by decide) (by decide) ?_
      obtain ⟨e193, P194, hd195, ho196, H197⟩ := H192
      refine Wq.VV (st := []) [.inl 59] d_Reader_readLine_151 k_Reader_expect ml_Reader_102 rfl rfl rfl (fun h => by cases h) (Nat.le_of_ble_eq_true rfl) hd195 ho196 (fun m200 hp201 hw203 => ?_)
      have H198 := H197 m200 hp201 hw203
      exact Wq.vret d_Reader_readLine_154 rfl H198
    by_cases c205 : (m 3 4) = 101
    · exact Wp.tin (off := 99) 101 128 d_Reader_readLine_29 c205 (by decide +kernel) (by decide +kernel) (by decide +kernel) (by decide +kernel) hd204
    by_cases c206 : (m 3 4) = 103
    · exact Wp.tin (off := 99) 103 128 d_Reader_readLine_29 c206 (by decide +kernel) (by decide +kernel) (by decide +kernel) (by decide +kernel) hd204
    have ho29 : (m 3 4) < 100 ∨ 106 < (m 3 4) := (lt_or_geI (m 3 4) 100).elim Or.inl (fun h9 => Or.inr (Int.lt_of_lt_of_le (by decide +kernel) (ne_step (ne_step (ne_step (ne_step (ne_step (ne_step (ne_step h9 c30) c205) c56) c206) c82) c108) c137)))
    exact Wp.tout 128 d_Reader_readLine_29 ho29 (by decide +kernel) hd204
  · have H16 := H14 c12
    refine Wp.aload_n 0 0 d_Reader_readLine_16 rfl rfl ?_
    obtain ⟨e207, P208, hd209, ho210, H211⟩ := H16
    refine Wq.VV (st := []) [] d_Reader_readLine_17 k_Reader_refuseToken ml_Reader_73 rfl rfl rfl (fun h => by cases h) (Nat.le_of_ble_eq_true rfl) hd209 ho210 (fun m214 hp215 hw217 => ?_)
    have H212 := H211 m214 hp215 hw217
    exact Wq.vret d_Reader_readLine_20 rfl H212
theorem d_Reader_canBegin_0 : decode Y_Reader_canBegin.2.1 0 = .ok (.iload_n 1, 1) := by decide +kernel
theorem d_Reader_canBegin_1 : decode Y_Reader_canBegin.2.1 1 = .ok (.tableswitch 107 100 107 #[47, 107, 64, 107, 66, 68, 81, 94], 47) := by decide +kernel
theorem d_Reader_canBegin_48 : decode Y_Reader_canBegin.2.1 48 = .ok (.aload_n 0, 1) := by decide +kernel
theorem d_Reader_canBegin_49 : decode Y_Reader_canBegin.2.1 49 = .ok (.getfield 22, 3) := by decide +kernel
theorem d_Reader_canBegin_52 : decode Y_Reader_canBegin.2.1 52 = .ok (.getfield 105, 3) := by decide +kernel
theorem d_Reader_canBegin_55 : decode Y_Reader_canBegin.2.1 55 = .ok (.iconst 5, 1) := by decide +kernel
theorem d_Reader_canBegin_56 : decode Y_Reader_canBegin.2.1 56 = .ok (.if_icmp .ge 7, 3) := by decide +kernel
theorem d_Reader_canBegin_59 : decode Y_Reader_canBegin.2.1 59 = .ok (.iconst 1, 1) := by decide +kernel
theorem d_Reader_canBegin_60 : decode Y_Reader_canBegin.2.1 60 = .ok (.goto 4, 3) := by decide +kernel
theorem d_Reader_canBegin_63 : decode Y_Reader_canBegin.2.1 63 = .ok (.iconst 0, 1) := by decide +kernel
theorem d_Reader_canBegin_64 : decode Y_Reader_canBegin.2.1 64 = .ok (.ireturn, 1) := by decide +kernel
theorem d_Reader_canBegin_65 : decode Y_Reader_canBegin.2.1 65 = .ok (.iconst 1, 1) := by decide +kernel
theorem d_Reader_canBegin_66 : decode Y_Reader_canBegin.2.1 66 = .ok (.ireturn, 1) := by decide +kernel
theorem d_Reader_canBegin_67 : decode Y_Reader_canBegin.2.1 67 = .ok (.iconst 1, 1) := by decide +kernel
theorem d_Reader_canBegin_68 : decode Y_Reader_canBegin.2.1 68 = .ok (.ireturn, 1) := by decide +kernel
theorem d_Reader_canBegin_69 : decode Y_Reader_canBegin.2.1 69 = .ok (.aload_n 0, 1) := by decide +kernel
theorem d_Reader_canBegin_70 : decode Y_Reader_canBegin.2.1 70 = .ok (.getfield 31, 3) := by decide +kernel
theorem d_Reader_canBegin_73 : decode Y_Reader_canBegin.2.1 73 = .ok (.ifCond .ne 7, 3) := by decide +kernel
theorem d_Reader_canBegin_76 : decode Y_Reader_canBegin.2.1 76 = .ok (.iconst 1, 1) := by decide +kernel
theorem d_Reader_canBegin_77 : decode Y_Reader_canBegin.2.1 77 = .ok (.goto 4, 3) := by decide +kernel
theorem d_Reader_canBegin_80 : decode Y_Reader_canBegin.2.1 80 = .ok (.iconst 0, 1) := by decide +kernel
theorem d_Reader_canBegin_81 : decode Y_Reader_canBegin.2.1 81 = .ok (.ireturn, 1) := by decide +kernel
theorem d_Reader_canBegin_82 : decode Y_Reader_canBegin.2.1 82 = .ok (.aload_n 0, 1) := by decide +kernel
theorem d_Reader_canBegin_83 : decode Y_Reader_canBegin.2.1 83 = .ok (.getfield 35, 3) := by decide +kernel
theorem d_Reader_canBegin_86 : decode Y_Reader_canBegin.2.1 86 = .ok (.ifCond .ne 7, 3) := by decide +kernel
theorem d_Reader_canBegin_89 : decode Y_Reader_canBegin.2.1 89 = .ok (.iconst 1, 1) := by decide +kernel
theorem d_Reader_canBegin_90 : decode Y_Reader_canBegin.2.1 90 = .ok (.goto 4, 3) := by decide +kernel
theorem d_Reader_canBegin_93 : decode Y_Reader_canBegin.2.1 93 = .ok (.iconst 0, 1) := by decide +kernel
theorem d_Reader_canBegin_94 : decode Y_Reader_canBegin.2.1 94 = .ok (.ireturn, 1) := by decide +kernel
theorem d_Reader_canBegin_95 : decode Y_Reader_canBegin.2.1 95 = .ok (.aload_n 0, 1) := by decide +kernel
theorem d_Reader_canBegin_96 : decode Y_Reader_canBegin.2.1 96 = .ok (.getfield 38, 3) := by decide +kernel
theorem d_Reader_canBegin_99 : decode Y_Reader_canBegin.2.1 99 = .ok (.ifCond .ne 7, 3) := by decide +kernel
theorem d_Reader_canBegin_102 : decode Y_Reader_canBegin.2.1 102 = .ok (.iconst 1, 1) := by decide +kernel
theorem d_Reader_canBegin_103 : decode Y_Reader_canBegin.2.1 103 = .ok (.goto 4, 3) := by decide +kernel
theorem d_Reader_canBegin_106 : decode Y_Reader_canBegin.2.1 106 = .ok (.iconst 0, 1) := by decide +kernel
theorem d_Reader_canBegin_107 : decode Y_Reader_canBegin.2.1 107 = .ok (.ireturn, 1) := by decide +kernel
theorem d_Reader_canBegin_108 : decode Y_Reader_canBegin.2.1 108 = .ok (.iconst 0, 1) := by decide +kernel
theorem d_Reader_canBegin_109 : decode Y_Reader_canBegin.2.1 109 = .ok (.ireturn, 1) := by decide +kernel
theorem e_Reader_canBegin {l : Launch} {G : GT} {d : Nat} {P : Int → MM → Prop} {m : MM} (x1 : Int)  (H : wfM m → inR x1 → (x1 = 100 → (∃ b5 : Nat, m 2 2 = b5 ∧ isB b5 ∧ (((m b5 0) ≥ 5 → (P 0 m)) ∧ (¬ ((m b5 0) ≥ 5) → (P 1 m))))) ∧ (x1 = 102 → (P 1 m)) ∧ (x1 = 104 → (P 1 m)) ∧ (x1 = 105 → (((m 2 3) ≠ 0 → (P 0 m)) ∧ (¬ ((m 2 3) ≠ 0) → (P 1 m)))) ∧ (x1 = 106 → (((m 2 4) ≠ 0 → (P 0 m)) ∧ (¬ ((m 2 4) ≠ 0) → (P 1 m)))) ∧ (x1 = 107 → (((m 2 5) ≠ 0 → (P 0 m)) ∧ (¬ ((m 2 5) ≠ 0) → (P 1 m)))) ∧ (¬ (x1 = 100) → ¬ (x1 = 102) → ¬ (x1 = 104) → ¬ (x1 = 105) → ¬ (x1 = 106) → ¬ (x1 = 107) → (P 0 m))) : CI l G Y_Reader_canBegin d [.inr (.inr 2), .inl x1] m P := by
  refine CI.of [(0, .inr (.inr 2)), (1, .inl x1)] k_Reader_canBegin.1 (Nat.le_of_ble_eq_true rfl) rfl (Wp.wf (fun hw _ hl hs => ?_))
  have H0 := H hw (hl _ (List.mem_of_getElem? (i := 1) rfl))
  refine Wp.iload_n 1 1 d_Reader_canBegin_0 rfl rfl ?_
  obtain ⟨H1, H2⟩ := H0
  by_cases c3 : x1 = 100
  · have H4 := H1 c3
    refine Wp.tin (off := 47) 100 48 d_Reader_canBegin_1 c3 (by decide +kernel) (by decide +kernel) (by decide +kernel) (by decide +kernel) ?_
    refine Wp.aload_n 0 0 d_Reader_canBegin_48 rfl rfl ?_
    obtain ⟨b5, hb6, hB7, H8⟩ := H4
    refine Wp.getR b5 d_Reader_canBegin_49 fl_Reader_22 rfl (Or.inl rfl) rfl hb6 ?_
    refine Wq.getI 0 rfl d_Reader_canBegin_52 fl_Reader_105 (isB_lay hB7) (Or.inl rfl) ?_
    refine Wp.iconst d_Reader_canBegin_55 (by decide) ?_
    obtain ⟨H10, H11⟩ := H8
    refine Wp.icmp_ge 63 d_Reader_canBegin_56 (by decide) (fun c9 => ?_) (fun c9 => ?_)
    · have H12 := H10 c9
      refine Wp.iconst d_Reader_canBegin_63 (by decide) ?_
      exact Wq.zret d_Reader_canBegin_64 rfl (by decide) H12
    · have H13 := H11 c9
      refine Wp.iconst d_Reader_canBegin_59 (by decide) ?_
      refine Wp.goto 64 d_Reader_canBegin_60 (by decide) ?_
      exact Wq.zret d_Reader_canBegin_64 rfl (by decide) H13
  obtain ⟨H14, H15⟩ := H2
  by_cases c16 : x1 = 102
  · have H17 := H14 c16
    refine Wp.tin (off := 64) 102 65 d_Reader_canBegin_1 c16 (by decide +kernel) (by decide +kernel) (by decide +kernel) (by decide +kernel) ?_
    refine Wp.iconst d_Reader_canBegin_65 (by decide) ?_
    exact Wq.zret d_Reader_canBegin_66 rfl (by decide) H17
  obtain ⟨H18, H19⟩ := H15
  by_cases c20 : x1 = 104
  · have H21 := H18 c20
    refine Wp.tin (off := 66) 104 67 d_Reader_canBegin_1 c20 (by decide +kernel) (by decide +kernel) (by decide +kernel) (by decide +kernel) ?_
    refine Wp.iconst d_Reader_canBegin_67 (by decide) ?_
    exact Wq.zret d_Reader_canBegin_68 rfl (by decide) H21
  obtain ⟨H22, H23⟩ := H19
  by_cases c24 : x1 = 105
  · have H25 := H22 c24
    refine Wp.tin (off := 68) 105 69 d_Reader_canBegin_1 c24 (by decide +kernel) (by decide +kernel) (by decide +kernel) (by decide +kernel) ?_
    refine Wp.aload_n 0 0 d_Reader_canBegin_69 rfl rfl ?_
    refine Wq.getI 3 rfl d_Reader_canBegin_70 fl_Reader_31 rfl (Or.inr rfl) ?_
    obtain ⟨H27, H28⟩ := H25
    refine Wp.if_ne 80 d_Reader_canBegin_73 (by decide) (fun c26 => ?_) (fun c26 => ?_)
    · have H29 := H27 c26
      refine Wp.iconst d_Reader_canBegin_80 (by decide) ?_
      exact Wq.zret d_Reader_canBegin_81 rfl (by decide) H29
    · have H30 := H28 c26
      refine Wp.iconst d_Reader_canBegin_76 (by decide) ?_
      refine Wp.goto 81 d_Reader_canBegin_77 (by decide) ?_
      exact Wq.zret d_Reader_canBegin_81 rfl (by decide) H30
  obtain ⟨H31, H32⟩ := H23
  by_cases c33 : x1 = 106
  · have H34 := H31 c33
    refine Wp.tin (off := 81) 106 82 d_Reader_canBegin_1 c33 (by decide +kernel) (by decide +kernel) (by decide +kernel) (by decide +kernel) ?_
    refine Wp.aload_n 0 0 d_Reader_canBegin_82 rfl rfl ?_
    refine Wq.getI 4 rfl d_Reader_canBegin_83 fl_Reader_35 rfl (Or.inr rfl) ?_
    obtain ⟨H36, H37⟩ := H34
    refine Wp.if_ne 93 d_Reader_canBegin_86 (by decide) (fun c35 => ?_) (fun c35 => ?_)
    · have H38 := H36 c35
      refine Wp.iconst d_Reader_canBegin_93 (by decide) ?_
      exact Wq.zret d_Reader_canBegin_94 rfl (by decide) H38
    · have H39 := H37 c35
      refine Wp.iconst d_Reader_canBegin_89 (by decide) ?_
      refine Wp.goto 94 d_Reader_canBegin_90 (by decide) ?_
      exact Wq.zret d_Reader_canBegin_94 rfl (by decide) H39
  obtain ⟨H40, H41⟩ := H32
  by_cases c42 : x1 = 107
  · have H43 := H40 c42
    refine Wp.tin (off := 94) 107 95 d_Reader_canBegin_1 c42 (by decide +kernel) (by decide +kernel) (by decide +kernel) (by decide +kernel) ?_
    refine Wp.aload_n 0 0 d_Reader_canBegin_95 rfl rfl ?_
    refine Wq.getI 5 rfl d_Reader_canBegin_96 fl_Reader_38 rfl (Or.inr rfl) ?_
    obtain ⟨H45, H46⟩ := H43
    refine Wp.if_ne 106 d_Reader_canBegin_99 (by decide) (fun c44 => ?_) (fun c44 => ?_)
    · have H47 := H45 c44
      refine Wp.iconst d_Reader_canBegin_106 (by decide) ?_
      exact Wq.zret d_Reader_canBegin_107 rfl (by decide) H47
    · have H48 := H46 c44
      refine Wp.iconst d_Reader_canBegin_102 (by decide) ?_
      refine Wp.goto 107 d_Reader_canBegin_103 (by decide) ?_
      exact Wq.zret d_Reader_canBegin_107 rfl (by decide) H48
  have H49 := H41 c3 c16 c20 c24 c33 c42
  have hd50 : Wq l G false Y_Reader_canBegin d (QI P) 108 [(0, .inr (.inr 2)), (1, .inl x1)] [] m := by
    refine Wp.iconst d_Reader_canBegin_108 (by decide) ?_
    exact Wq.zret d_Reader_canBegin_109 rfl (by decide) H49
  by_cases c51 : x1 = 101
  · exact Wp.tin (off := 107) 101 108 d_Reader_canBegin_1 c51 (by decide +kernel) (by decide +kernel) (by decide +kernel) (by decide +kernel) hd50
  by_cases c52 : x1 = 103
  · exact Wp.tin (off := 107) 103 108 d_Reader_canBegin_1 c52 (by decide +kernel) (by decide +kernel) (by decide +kernel) (by decide +kernel) hd50
  have ho1 : x1 < 100 ∨ 107 < x1 := (lt_or_geI x1 100).elim Or.inl (fun h9 => Or.inr (Int.lt_of_lt_of_le (by decide +kernel) (ne_step (ne_step (ne_step (ne_step (ne_step (ne_step (ne_step (ne_step h9 c3) c51) c16) c52) c20) c24) c33) c42)))
  exact Wp.tout 108 d_Reader_canBegin_1 ho1 (by decide +kernel) hd50
theorem d_Reader_refuseToken_0 : decode Y_Reader_refuseToken.2.1 0 = .ok (.aload_n 0, 1) := by decide +kernel
theorem d_Reader_refuseToken_1 : decode Y_Reader_refuseToken.2.1 1 = .ok (.aload_n 0, 1) := by decide +kernel
theorem d_Reader_refuseToken_2 : decode Y_Reader_refuseToken.2.1 2 = .ok (.getfield 12, 3) := by decide +kernel
theorem d_Reader_refuseToken_5 : decode Y_Reader_refuseToken.2.1 5 = .ok (.getfield 52, 3) := by decide +kernel
theorem d_Reader_refuseToken_8 : decode Y_Reader_refuseToken.2.1 8 = .ok (.iconst 1, 1) := by decide +kernel
theorem d_Reader_refuseToken_9 : decode Y_Reader_refuseToken.2.1 9 = .ok (.if_icmp .ne 7, 3) := by decide +kernel
theorem d_Reader_refuseToken_12 : decode Y_Reader_refuseToken.2.1 12 = .ok (.iconst 1, 1) := by decide +kernel
theorem d_Reader_refuseToken_13 : decode Y_Reader_refuseToken.2.1 13 = .ok (.goto 4, 3) := by decide +kernel
theorem d_Reader_refuseToken_16 : decode Y_Reader_refuseToken.2.1 16 = .ok (.iconst 2, 1) := by decide +kernel
theorem d_Reader_refuseToken_17 : decode Y_Reader_refuseToken.2.1 17 = .ok (.aload_n 0, 1) := by decide +kernel
theorem d_Reader_refuseToken_18 : decode Y_Reader_refuseToken.2.1 18 = .ok (.getfield 12, 3) := by decide +kernel
theorem d_Reader_refuseToken_21 : decode Y_Reader_refuseToken.2.1 21 = .ok (.getfield 66, 3) := by decide +kernel
theorem d_Reader_refuseToken_24 : decode Y_Reader_refuseToken.2.1 24 = .ok (.invokevirtual 62, 3) := by decide +kernel
theorem d_Reader_refuseToken_27 : decode Y_Reader_refuseToken.2.1 27 = .ok (.return_, 1) := by decide +kernel
theorem e_Reader_refuseToken {l : Launch} {G : GT} {d : Nat} {P : MM → Prop} {m : MM}   (H : wfM m → ((m 3 4) ≠ 1 → (∃ (e6 : Nat) (P7 : MM → Prop), e6 < d ∧ CV l G Y_Reader_tellFault e6 [.inr (.inr 2), .inl 2, .inl (m 3 5)] m P7 ∧ (∀ m13, P7 m13 → wfM m13 → (P m13)))) ∧ (¬ ((m 3 4) ≠ 1) → (∃ (e17 : Nat) (P18 : MM → Prop), e17 < d ∧ CV l G Y_Reader_tellFault e17 [.inr (.inr 2), .inl 1, .inl (m 3 5)] m P18 ∧ (∀ m24, P18 m24 → wfM m24 → (P m24))))) : CV l G Y_Reader_refuseToken d [.inr (.inr 2)] m P := by
  refine CV.of [(0, .inr (.inr 2))] k_Reader_refuseToken.1 (Nat.le_of_ble_eq_true rfl) rfl (Wp.wf (fun hw _ hl hs => ?_))
  have H0 := H hw
  refine Wp.aload_n 0 0 d_Reader_refuseToken_0 rfl rfl ?_
  refine Wp.aload_n 0 0 d_Reader_refuseToken_1 rfl rfl ?_
  refine Wp.getP 3 d_Reader_refuseToken_2 fl_Reader_12 rfl rfl rfl ?_
  refine Wq.getI 4 rfl d_Reader_refuseToken_5 fl_Reader_52 rfl (Or.inl rfl) ?_
  refine Wp.iconst d_Reader_refuseToken_8 (by decide) ?_
  obtain ⟨H2, H3⟩ := H0
  refine Wp.icmp_ne 16 d_Reader_refuseToken_9 (by decide) (fun c1 => ?_) (fun c1 => ?_)
  · have H4 := H2 c1
    refine Wp.iconst d_Reader_refuseToken_16 (by decide) ?_
    refine Wp.aload_n 0 0 d_Reader_refuseToken_17 rfl rfl ?_
    refine Wp.getP 3 d_Reader_refuseToken_18 fl_Reader_12 rfl rfl rfl ?_
    refine Wq.getI 5 rfl d_Reader_refuseToken_21 fl_Reader_66 rfl (Or.inl rfl) ?_
    obtain ⟨e6, P7, hd8, ho9, H10⟩ := H4
    refine Wq.VV (st := []) [.inl 2, .inl (m 3 5)] d_Reader_refuseToken_24 k_Reader_tellFault ml_Reader_62 rfl rfl rfl (fun h => by cases h) (Nat.le_of_ble_eq_true rfl) hd8 ho9 (fun m13 hp14 hw16 => ?_)
    have H11 := H10 m13 hp14 hw16
    exact Wq.vret d_Reader_refuseToken_27 rfl H11
  · have H5 := H3 c1
    refine Wp.iconst d_Reader_refuseToken_12 (by decide) ?_
    refine Wp.goto 17 d_Reader_refuseToken_13 (by decide) ?_
    refine Wp.aload_n 0 0 d_Reader_refuseToken_17 rfl rfl ?_
    refine Wp.getP 3 d_Reader_refuseToken_18 fl_Reader_12 rfl rfl rfl ?_
    refine Wq.getI 5 rfl d_Reader_refuseToken_21 fl_Reader_66 rfl (Or.inl rfl) ?_
    obtain ⟨e17, P18, hd19, ho20, H21⟩ := H5
    refine Wq.VV (st := []) [.inl 1, .inl (m 3 5)] d_Reader_refuseToken_24 k_Reader_tellFault ml_Reader_62 rfl rfl rfl (fun h => by cases h) (Nat.le_of_ble_eq_true rfl) hd19 ho20 (fun m24 hp25 hw27 => ?_)
    have H22 := H21 m24 hp25 hw27
    exact Wq.vret d_Reader_refuseToken_27 rfl H22
theorem d_Reader_tellFault_0 : decode Y_Reader_tellFault.2.1 0 = .ok (.aload_n 0, 1) := by decide +kernel
theorem d_Reader_tellFault_1 : decode Y_Reader_tellFault.2.1 1 = .ok (.getfield 41, 3) := by decide +kernel
theorem d_Reader_tellFault_4 : decode Y_Reader_tellFault.2.1 4 = .ok (.ifCond .ne 13, 3) := by decide +kernel
theorem d_Reader_tellFault_7 : decode Y_Reader_tellFault.2.1 7 = .ok (.aload_n 0, 1) := by decide +kernel
theorem d_Reader_tellFault_8 : decode Y_Reader_tellFault.2.1 8 = .ok (.iload_n 1, 1) := by decide +kernel
theorem d_Reader_tellFault_9 : decode Y_Reader_tellFault.2.1 9 = .ok (.putfield 41, 3) := by decide +kernel
theorem d_Reader_tellFault_12 : decode Y_Reader_tellFault.2.1 12 = .ok (.aload_n 0, 1) := by decide +kernel
theorem d_Reader_tellFault_13 : decode Y_Reader_tellFault.2.1 13 = .ok (.iload_n 2, 1) := by decide +kernel
theorem d_Reader_tellFault_14 : decode Y_Reader_tellFault.2.1 14 = .ok (.putfield 45, 3) := by decide +kernel
theorem d_Reader_tellFault_17 : decode Y_Reader_tellFault.2.1 17 = .ok (.return_, 1) := by decide +kernel
theorem e_Reader_tellFault {l : Launch} {G : GT} {d : Nat} {P : MM → Prop} {m : MM} (x1 : Int) (x2 : Int)  (H : wfM m → inR x1 → inR x2 → ((m 2 6) ≠ 0 → (P m)) ∧ (¬ ((m 2 6) ≠ 0) → (∀ m6, m6 = up m 2 6 x1 → (∀ m9, m9 = up m6 2 7 x2 → (P m9))))) : CV l G Y_Reader_tellFault d [.inr (.inr 2), .inl x1, .inl x2] m P := by
  refine CV.of [(0, .inr (.inr 2)), (1, .inl x1), (2, .inl x2)] k_Reader_tellFault.1 (Nat.le_of_ble_eq_true rfl) rfl (Wp.wf (fun hw _ hl hs => ?_))
  have H0 := H hw (hl _ (List.mem_of_getElem? (i := 1) rfl)) (hl _ (List.mem_of_getElem? (i := 2) rfl))
  refine Wp.aload_n 0 0 d_Reader_tellFault_0 rfl rfl ?_
  refine Wq.getI 6 rfl d_Reader_tellFault_1 fl_Reader_41 rfl (Or.inl rfl) ?_
  obtain ⟨H2, H3⟩ := H0
  refine Wp.if_ne 17 d_Reader_tellFault_4 (by decide) (fun c1 => ?_) (fun c1 => ?_)
  · have H4 := H2 c1
    exact Wq.vret d_Reader_tellFault_17 rfl H4
  · have H5 := H3 c1
    refine Wp.aload_n 0 0 d_Reader_tellFault_7 rfl rfl ?_
    refine Wp.iload_n 1 1 d_Reader_tellFault_8 rfl rfl ?_
    refine Wq.putI 6 rfl d_Reader_tellFault_9 fl_Reader_41 (fun _ _ _ h => by cases h; rfl) rfl rfl rfl (fun m6 hm7 => ?_)
    have H8 := H5 m6 hm7
    refine Wp.aload_n 0 0 d_Reader_tellFault_12 rfl rfl ?_
    refine Wp.iload_n 2 2 d_Reader_tellFault_13 rfl rfl ?_
    refine Wq.putI 7 rfl d_Reader_tellFault_14 fl_Reader_45 (fun _ _ _ h => by cases h; rfl) rfl rfl rfl (fun m9 hm10 => ?_)
    have H11 := H8 m9 hm10
    exact Wq.vret d_Reader_tellFault_17 rfl H11
theorem d_Reader_readPlate_0 : decode Y_Reader_readPlate.2.1 0 = .ok (.aload_n 0, 1) := by decide +kernel
theorem d_Reader_readPlate_1 : decode Y_Reader_readPlate.2.1 1 = .ok (.getfield 12, 3) := by decide +kernel
theorem d_Reader_readPlate_4 : decode Y_Reader_readPlate.2.1 4 = .ok (.getfield 52, 3) := by decide +kernel
theorem d_Reader_readPlate_7 : decode Y_Reader_readPlate.2.1 7 = .ok (.iconst 2, 1) := by decide +kernel
theorem d_Reader_readPlate_8 : decode Y_Reader_readPlate.2.1 8 = .ok (.if_icmp .ne 14, 3) := by decide +kernel
theorem d_Reader_readPlate_11 : decode Y_Reader_readPlate.2.1 11 = .ok (.aload_n 0, 1) := by decide +kernel
theorem d_Reader_readPlate_12 : decode Y_Reader_readPlate.2.1 12 = .ok (.getfield 22, 3) := by decide +kernel
theorem d_Reader_readPlate_15 : decode Y_Reader_readPlate.2.1 15 = .ok (.getfield 105, 3) := by decide +kernel
theorem d_Reader_readPlate_18 : decode Y_Reader_readPlate.2.1 18 = .ok (.iconst 5, 1) := by decide +kernel
theorem d_Reader_readPlate_19 : decode Y_Reader_readPlate.2.1 19 = .ok (.if_icmp .lt 8, 3) := by decide +kernel
theorem d_Reader_readPlate_22 : decode Y_Reader_readPlate.2.1 22 = .ok (.aload_n 0, 1) := by decide +kernel
theorem d_Reader_readPlate_23 : decode Y_Reader_readPlate.2.1 23 = .ok (.invokevirtual 73, 3) := by decide +kernel
theorem d_Reader_readPlate_26 : decode Y_Reader_readPlate.2.1 26 = .ok (.return_, 1) := by decide +kernel
theorem d_Reader_readPlate_27 : decode Y_Reader_readPlate.2.1 27 = .ok (.aload_n 0, 1) := by decide +kernel
theorem d_Reader_readPlate_28 : decode Y_Reader_readPlate.2.1 28 = .ok (.aload_n 0, 1) := by decide +kernel
theorem d_Reader_readPlate_29 : decode Y_Reader_readPlate.2.1 29 = .ok (.getfield 12, 3) := by decide +kernel
theorem d_Reader_readPlate_32 : decode Y_Reader_readPlate.2.1 32 = .ok (.getfield 108, 3) := by decide +kernel
theorem d_Reader_readPlate_35 : decode Y_Reader_readPlate.2.1 35 = .ok (.invokevirtual 112, 3) := by decide +kernel
theorem d_Reader_readPlate_38 : decode Y_Reader_readPlate.2.1 38 = .ok (.iconst (-1), 1) := by decide +kernel
theorem d_Reader_readPlate_39 : decode Y_Reader_readPlate.2.1 39 = .ok (.if_icmp .eq 16, 3) := by decide +kernel
theorem d_Reader_readPlate_42 : decode Y_Reader_readPlate.2.1 42 = .ok (.aload_n 0, 1) := by decide +kernel
theorem d_Reader_readPlate_43 : decode Y_Reader_readPlate.2.1 43 = .ok (.iconst 3, 1) := by decide +kernel
theorem d_Reader_readPlate_44 : decode Y_Reader_readPlate.2.1 44 = .ok (.aload_n 0, 1) := by decide +kernel
theorem d_Reader_readPlate_45 : decode Y_Reader_readPlate.2.1 45 = .ok (.getfield 12, 3) := by decide +kernel
theorem d_Reader_readPlate_48 : decode Y_Reader_readPlate.2.1 48 = .ok (.getfield 66, 3) := by decide +kernel
theorem d_Reader_readPlate_51 : decode Y_Reader_readPlate.2.1 51 = .ok (.invokevirtual 62, 3) := by decide +kernel
theorem d_Reader_readPlate_54 : decode Y_Reader_readPlate.2.1 54 = .ok (.return_, 1) := by decide +kernel
theorem d_Reader_readPlate_55 : decode Y_Reader_readPlate.2.1 55 = .ok (.aload_n 0, 1) := by decide +kernel
theorem d_Reader_readPlate_56 : decode Y_Reader_readPlate.2.1 56 = .ok (.getfield 22, 3) := by decide +kernel
theorem d_Reader_readPlate_59 : decode Y_Reader_readPlate.2.1 59 = .ok (.getfield 105, 3) := by decide +kernel
theorem d_Reader_readPlate_62 : decode Y_Reader_readPlate.2.1 62 = .ok (.istore_n 1, 1) := by decide +kernel
theorem d_Reader_readPlate_63 : decode Y_Reader_readPlate.2.1 63 = .ok (.aload_n 0, 1) := by decide +kernel
theorem d_Reader_readPlate_64 : decode Y_Reader_readPlate.2.1 64 = .ok (.getfield 18, 3) := by decide +kernel
theorem d_Reader_readPlate_67 : decode Y_Reader_readPlate.2.1 67 = .ok (.iload_n 1, 1) := by decide +kernel
theorem d_Reader_readPlate_68 : decode Y_Reader_readPlate.2.1 68 = .ok (.aload_n 0, 1) := by decide +kernel
theorem d_Reader_readPlate_69 : decode Y_Reader_readPlate.2.1 69 = .ok (.getfield 12, 3) := by decide +kernel
theorem d_Reader_readPlate_72 : decode Y_Reader_readPlate.2.1 72 = .ok (.getfield 108, 3) := by decide +kernel
theorem d_Reader_readPlate_75 : decode Y_Reader_readPlate.2.1 75 = .ok (.lastore, 1) := by decide +kernel
theorem d_Reader_readPlate_76 : decode Y_Reader_readPlate.2.1 76 = .ok (.aload_n 0, 1) := by decide +kernel
theorem d_Reader_readPlate_77 : decode Y_Reader_readPlate.2.1 77 = .ok (.getfield 22, 3) := by decide +kernel
theorem d_Reader_readPlate_80 : decode Y_Reader_readPlate.2.1 80 = .ok (.dup, 1) := by decide +kernel
theorem d_Reader_readPlate_81 : decode Y_Reader_readPlate.2.1 81 = .ok (.getfield 105, 3) := by decide +kernel
theorem d_Reader_readPlate_84 : decode Y_Reader_readPlate.2.1 84 = .ok (.iconst 1, 1) := by decide +kernel
theorem d_Reader_readPlate_85 : decode Y_Reader_readPlate.2.1 85 = .ok (.iadd, 1) := by decide +kernel
theorem d_Reader_readPlate_86 : decode Y_Reader_readPlate.2.1 86 = .ok (.putfield 105, 3) := by decide +kernel
theorem d_Reader_readPlate_89 : decode Y_Reader_readPlate.2.1 89 = .ok (.aload_n 0, 1) := by decide +kernel
theorem d_Reader_readPlate_90 : decode Y_Reader_readPlate.2.1 90 = .ok (.getfield 12, 3) := by decide +kernel
theorem d_Reader_readPlate_93 : decode Y_Reader_readPlate.2.1 93 = .ok (.invokevirtual 76, 3) := by decide +kernel
theorem d_Reader_readPlate_96 : decode Y_Reader_readPlate.2.1 96 = .ok (.aload_n 0, 1) := by decide +kernel
theorem d_Reader_readPlate_97 : decode Y_Reader_readPlate.2.1 97 = .ok (.getfield 12, 3) := by decide +kernel
theorem d_Reader_readPlate_100 : decode Y_Reader_readPlate.2.1 100 = .ok (.getfield 52, 3) := by decide +kernel
theorem d_Reader_readPlate_103 : decode Y_Reader_readPlate.2.1 103 = .ok (.bipush 101, 2) := by decide +kernel
theorem d_Reader_readPlate_105 : decode Y_Reader_readPlate.2.1 105 = .ok (.if_icmp .ne 26, 3) := by decide +kernel
theorem d_Reader_readPlate_108 : decode Y_Reader_readPlate.2.1 108 = .ok (.aload_n 0, 1) := by decide +kernel
theorem d_Reader_readPlate_109 : decode Y_Reader_readPlate.2.1 109 = .ok (.getfield 12, 3) := by decide +kernel
theorem d_Reader_readPlate_112 : decode Y_Reader_readPlate.2.1 112 = .ok (.invokevirtual 76, 3) := by decide +kernel
theorem d_Reader_readPlate_115 : decode Y_Reader_readPlate.2.1 115 = .ok (.aload_n 0, 1) := by decide +kernel
theorem d_Reader_readPlate_116 : decode Y_Reader_readPlate.2.1 116 = .ok (.getfield 22, 3) := by decide +kernel
theorem d_Reader_readPlate_119 : decode Y_Reader_readPlate.2.1 119 = .ok (.getfield 116, 3) := by decide +kernel
theorem d_Reader_readPlate_122 : decode Y_Reader_readPlate.2.1 122 = .ok (.iload_n 1, 1) := by decide +kernel
theorem d_Reader_readPlate_123 : decode Y_Reader_readPlate.2.1 123 = .ok (.aload_n 0, 1) := by decide +kernel
theorem d_Reader_readPlate_124 : decode Y_Reader_readPlate.2.1 124 = .ok (.iconst 0, 1) := by decide +kernel
theorem d_Reader_readPlate_125 : decode Y_Reader_readPlate.2.1 125 = .ok (.bipush 99, 2) := by decide +kernel
theorem d_Reader_readPlate_127 : decode Y_Reader_readPlate.2.1 127 = .ok (.invokevirtual 92, 3) := by decide +kernel
theorem d_Reader_readPlate_130 : decode Y_Reader_readPlate.2.1 130 = .ok (.iastore, 1) := by decide +kernel
theorem d_Reader_readPlate_131 : decode Y_Reader_readPlate.2.1 131 = .ok (.return_, 1) := by decide +kernel
theorem e_Reader_readPlate {l : Launch} {G : GT} {d : Nat} {P : MM → Prop} {m : MM}   (H : wfM m → ((m 3 4) ≠ 2 → (∃ (e6 : Nat) (P7 : MM → Prop), e6 < d ∧ CV l G Y_Reader_refuseToken e6 [.inr (.inr 2)] m P7 ∧ (∀ m13, P7 m13 → wfM m13 → (P m13)))) ∧ (¬ ((m 3 4) ≠ 2) → (∃ b17 : Nat, m 2 2 = b17 ∧ isB b17 ∧ (((m b17 0) < 5 → (∃ (e26 : Nat) (P27 : Int → MM → Prop), e26 < d ∧ CI l G Y_Reader_find e26 [.inr (.inr 2), .inr (.inl (m 3 6))] m P27 ∧ (∀ z32 m33, P27 z32 m33 → inR z32 → wfM m33 → ((z32 = (-1) → (∃ b42 : Nat, m33 2 2 = b42 ∧ isB b42 ∧ ((0 ≤ (m33 b42 0) ∧ (m33 b42 0) < (5 : Int)) ∧ (∀ m46, m46 = up m33 6 (m33 b42 0) (m33 3 6) → (∃ b51 : Nat, m46 2 2 = b51 ∧ isB b51 ∧ ((inR ((m46 b51 0) + 1)) ∧ (∀ m57, m57 = up m46 b51 0 ((m46 b51 0) + 1) → (∃ (e60 : Nat) (P61 : MM → Prop), e60 < d ∧ CV l G Y_Tokens_next e60 [.inr (.inr 3)] m57 P61 ∧ (∀ m67, P61 m67 → wfM m67 → (((m67 3 4) ≠ 101 → (P m67)) ∧ (¬ ((m67 3 4) ≠ 101) → (∃ (e76 : Nat) (P77 : MM → Prop), e76 < d ∧ CV l G Y_Tokens_next e76 [.inr (.inr 3)] m67 P77 ∧ (∀ m83, P77 m83 → wfM m83 → (∃ b87 : Nat, m83 2 2 = b87 ∧ isB b87 ∧ (∃ (e91 : Nat) (P92 : Int → MM → Prop), e91 < d ∧ CI l G Y_Reader_readNumber e91 [.inr (.inr 2), .inl 0, .inl 99] m83 P92 ∧ (∀ z97 m98, P92 z97 m98 → inR z97 → wfM m98 → ((0 ≤ (m33 b42 0) ∧ (m33 b42 0) < (5 : Int)) ∧ (∀ m102, m102 = up m98 (b87 + 1) (m33 b42 0) z97 → (P m102))))))))))))))))))) ∧ (¬ (z32 = (-1)) → (∃ (e111 : Nat) (P112 : MM → Prop), e111 < d ∧ CV l G Y_Reader_tellFault e111 [.inr (.inr 2), .inl 3, .inl (m33 3 5)] m33 P112 ∧ (∀ m118, P112 m118 → wfM m118 → (P m118)))))))) ∧ (¬ ((m b17 0) < 5) → (∃ (e122 : Nat) (P123 : MM → Prop), e122 < d ∧ CV l G Y_Reader_refuseToken e122 [.inr (.inr 2)] m P123 ∧ (∀ m129, P123 m129 → wfM m129 → (P m129)))))))) : CV l G Y_Reader_readPlate d [.inr (.inr 2)] m P := by
  refine CV.of [(0, .inr (.inr 2))] k_Reader_readPlate.1 (Nat.le_of_ble_eq_true rfl) rfl (Wp.wf (fun hw _ hl hs => ?_))
  have H0 := H hw
  refine Wp.aload_n 0 0 d_Reader_readPlate_0 rfl rfl ?_
  refine Wp.getP 3 d_Reader_readPlate_1 fl_Reader_12 rfl rfl rfl ?_
  refine Wq.getI 4 rfl d_Reader_readPlate_4 fl_Reader_52 rfl (Or.inl rfl) ?_
  refine Wp.iconst d_Reader_readPlate_7 (by decide) ?_
  obtain ⟨H2, H3⟩ := H0
  refine Wp.icmp_ne 22 d_Reader_readPlate_8 (by decide) (fun c1 => ?_) (fun c1 => ?_)
  · have H4 := H2 c1
    refine Wp.aload_n 0 0 d_Reader_readPlate_22 rfl rfl ?_
    obtain ⟨e6, P7, hd8, ho9, H10⟩ := H4
    refine Wq.VV (st := []) [] d_Reader_readPlate_23 k_Reader_refuseToken ml_Reader_73 rfl rfl rfl (fun h => by cases h) (Nat.le_of_ble_eq_true rfl) hd8 ho9 (fun m13 hp14 hw16 => ?_)
    have H11 := H10 m13 hp14 hw16
    exact Wq.vret d_Reader_readPlate_26 rfl H11
  · have H5 := H3 c1
    refine Wp.aload_n 0 0 d_Reader_readPlate_11 rfl rfl ?_
    obtain ⟨b17, hb18, hB19, H20⟩ := H5
    refine Wp.getR b17 d_Reader_readPlate_12 fl_Reader_22 rfl (Or.inl rfl) rfl hb18 ?_
    refine Wq.getI 0 rfl d_Reader_readPlate_15 fl_Reader_105 (isB_lay hB19) (Or.inl rfl) ?_
    refine Wp.iconst d_Reader_readPlate_18 (by decide) ?_
    obtain ⟨H22, H23⟩ := H20
    refine Wp.icmp_lt 27 d_Reader_readPlate_19 (by decide) (fun c21 => ?_) (fun c21 => ?_)
    · have H24 := H22 c21
      refine Wp.aload_n 0 0 d_Reader_readPlate_27 rfl rfl ?_
      refine Wp.aload_n 0 0 d_Reader_readPlate_28 rfl rfl ?_
      refine Wp.getP 3 d_Reader_readPlate_29 fl_Reader_12 rfl rfl rfl ?_
      refine Wq.getL 6 rfl d_Reader_readPlate_32 fl_Reader_108 rfl rfl ?_
      obtain ⟨e26, P27, hd28, ho29, H30⟩ := H24
      refine Wq.VI (st := []) [.inr (.inl (m 3 6))] d_Reader_readPlate_35 k_Reader_find ml_Reader_112 rfl rfl rfl (fun h => by cases h) (Nat.le_of_ble_eq_true rfl) hd28 ho29 (fun z32 m33 hp34 hz35 hw36 => ?_)
      have H31 := H30 z32 m33 hp34 hz35 hw36
      refine Wp.iconst d_Reader_readPlate_38 (by decide) ?_
      obtain ⟨H38, H39⟩ := H31
      refine Wp.icmp_eq 55 d_Reader_readPlate_39 (by decide) (fun c37 => ?_) (fun c37 => ?_)
      · have H40 := H38 c37
        refine Wp.aload_n 0 0 d_Reader_readPlate_55 rfl rfl ?_
        obtain ⟨b42, hb43, hB44, H45⟩ := H40
        refine Wp.getR b42 d_Reader_readPlate_56 fl_Reader_22 rfl (Or.inl rfl) rfl hb43 ?_
        refine Wq.getI 0 rfl d_Reader_readPlate_59 fl_Reader_105 (isB_lay hB44) (Or.inl rfl) ?_
        refine Wp.istore_n 1 [(0, .inr (.inr 2)), (1, .inl (m33 b42 0))] d_Reader_readPlate_62 rfl (by decide) rfl ?_
        refine Wp.aload_n 0 0 d_Reader_readPlate_63 rfl rfl ?_
        refine Wp.getP 6 d_Reader_readPlate_64 fl_Reader_18 rfl rfl rfl ?_
        refine Wp.iload_n 1 1 d_Reader_readPlate_67 rfl rfl ?_
        refine Wp.aload_n 0 0 d_Reader_readPlate_68 rfl rfl ?_
        refine Wp.getP 3 d_Reader_readPlate_69 fl_Reader_12 rfl rfl rfl ?_
        refine Wq.getL 6 rfl d_Reader_readPlate_72 fl_Reader_108 rfl rfl ?_
        obtain ⟨s109, H110⟩ := H45
        refine Wq.last d_Reader_readPlate_75 rfl s109.1 s109.2 (fun m46 hm47 => ?_)
        have H48 := H110 m46 hm47
        refine Wp.aload_n 0 0 d_Reader_readPlate_76 rfl rfl ?_
        obtain ⟨b51, hb52, hB53, H54⟩ := H48
        refine Wp.getR b51 d_Reader_readPlate_77 fl_Reader_22 rfl (Or.inl rfl) rfl hb52 ?_
        refine Wp.dup d_Reader_readPlate_80 rfl ?_
        refine Wq.getI 0 rfl d_Reader_readPlate_81 fl_Reader_105 (isB_lay hB53) (Or.inl rfl) ?_
        refine Wp.iconst d_Reader_readPlate_84 (by decide) ?_
        obtain ⟨s55, H56⟩ := H54
        refine Wp.iadd d_Reader_readPlate_85 s55 ?_
        refine Wq.putI 0 rfl d_Reader_readPlate_86 fl_Reader_105 (fun _ _ _ h => by cases h; rfl) (isB_lay hB53) (isB_n0 hB53) rfl (fun m57 hm58 => ?_)
        have H59 := H56 m57 hm58
        refine Wp.aload_n 0 0 d_Reader_readPlate_89 rfl rfl ?_
        refine Wp.getP 3 d_Reader_readPlate_90 fl_Reader_12 rfl rfl rfl ?_
        obtain ⟨e60, P61, hd62, ho63, H64⟩ := H59
        refine Wq.VV (st := []) [] d_Reader_readPlate_93 k_Tokens_next ml_Reader_76 rfl rfl rfl (fun h => by cases h) (Nat.le_of_ble_eq_true rfl) hd62 ho63 (fun m67 hp68 hw70 => ?_)
        have H65 := H64 m67 hp68 hw70
        refine Wp.aload_n 0 0 d_Reader_readPlate_96 rfl rfl ?_
        refine Wp.getP 3 d_Reader_readPlate_97 fl_Reader_12 rfl rfl rfl ?_
        refine Wq.getI 4 rfl d_Reader_readPlate_100 fl_Reader_52 rfl (Or.inl rfl) ?_
        refine Wp.bipush d_Reader_readPlate_103 (by decide) (by decide) ?_
        obtain ⟨H72, H73⟩ := H65
        refine Wp.icmp_ne 131 d_Reader_readPlate_105 (by decide) (fun c71 => ?_) (fun c71 => ?_)
        · have H74 := H72 c71
          exact Wq.vret d_Reader_readPlate_131 rfl H74
        · have H75 := H73 c71
          refine Wp.aload_n 0 0 d_Reader_readPlate_108 rfl rfl ?_
          refine Wp.getP 3 d_Reader_readPlate_109 fl_Reader_12 rfl rfl rfl ?_
          obtain ⟨e76, P77, hd78, ho79, H80⟩ := H75
          refine Wq.VV (st := []) [] d_Reader_readPlate_112 k_Tokens_next ml_Reader_76 rfl rfl rfl (fun h => by cases h) (Nat.le_of_ble_eq_true rfl) hd78 ho79 (fun m83 hp84 hw86 => ?_)
          have H81 := H80 m83 hp84 hw86
          refine Wp.aload_n 0 0 d_Reader_readPlate_115 rfl rfl ?_
          obtain ⟨b87, hb88, hB89, H90⟩ := H81
          refine Wp.getR b87 d_Reader_readPlate_116 fl_Reader_22 rfl (Or.inl rfl) rfl hb88 ?_
          refine Wp.getP (b87 + 1) d_Reader_readPlate_119 fl_Reader_116 (isB_lay hB89) rfl (isB_p5 hB89) ?_
          refine Wp.iload_n 1 1 d_Reader_readPlate_122 rfl rfl ?_
          refine Wp.aload_n 0 0 d_Reader_readPlate_123 rfl rfl ?_
          refine Wp.iconst d_Reader_readPlate_124 (by decide) ?_
          refine Wp.bipush d_Reader_readPlate_125 (by decide) (by decide) ?_
          obtain ⟨e91, P92, hd93, ho94, H95⟩ := H90
          refine Wq.VI (st := [.inl (m33 b42 0), .inr (.inr (b87 + 1))]) [.inl 0, .inl 99] d_Reader_readPlate_127 k_Reader_readNumber ml_Reader_92 rfl rfl rfl (fun h => by cases h) (Nat.le_of_ble_eq_true rfl) hd93 ho94 (fun z97 m98 hp99 hz100 hw101 => ?_)
          have H96 := H95 z97 m98 hp99 hz100 hw101
          obtain ⟨s107, H108⟩ := H96
          refine Wq.iast d_Reader_readPlate_130 (isB_l5 hB89) s107.1 s107.2 (fun m102 hm103 => ?_)
          have H104 := H108 m102 hm103
          exact Wq.vret d_Reader_readPlate_131 rfl H104
      · have H41 := H39 c37
        refine Wp.aload_n 0 0 d_Reader_readPlate_42 rfl rfl ?_
        refine Wp.iconst d_Reader_readPlate_43 (by decide) ?_
        refine Wp.aload_n 0 0 d_Reader_readPlate_44 rfl rfl ?_
        refine Wp.getP 3 d_Reader_readPlate_45 fl_Reader_12 rfl rfl rfl ?_
        refine Wq.getI 5 rfl d_Reader_readPlate_48 fl_Reader_66 rfl (Or.inl rfl) ?_
        obtain ⟨e111, P112, hd113, ho114, H115⟩ := H41
        refine Wq.VV (st := []) [.inl 3, .inl (m33 3 5)] d_Reader_readPlate_51 k_Reader_tellFault ml_Reader_62 rfl rfl rfl (fun h => by cases h) (Nat.le_of_ble_eq_true rfl) hd113 ho114 (fun m118 hp119 hw121 => ?_)
        have H116 := H115 m118 hp119 hw121
        exact Wq.vret d_Reader_readPlate_54 rfl H116
    · have H25 := H23 c21
      refine Wp.aload_n 0 0 d_Reader_readPlate_22 rfl rfl ?_
      obtain ⟨e122, P123, hd124, ho125, H126⟩ := H25
      refine Wq.VV (st := []) [] d_Reader_readPlate_23 k_Reader_refuseToken ml_Reader_73 rfl rfl rfl (fun h => by cases h) (Nat.le_of_ble_eq_true rfl) hd124 ho125 (fun m129 hp130 hw132 => ?_)
      have H127 := H126 m129 hp130 hw132
      exact Wq.vret d_Reader_readPlate_26 rfl H127
theorem d_Reader_find_0 : decode Y_Reader_find.2.1 0 = .ok (.iconst 0, 1) := by decide +kernel
theorem d_Reader_find_1 : decode Y_Reader_find.2.1 1 = .ok (.istore_n 3, 1) := by decide +kernel
theorem d_Reader_find_2 : decode Y_Reader_find.2.1 2 = .ok (.iload_n 3, 1) := by decide +kernel
theorem d_Reader_find_3 : decode Y_Reader_find.2.1 3 = .ok (.aload_n 0, 1) := by decide +kernel
theorem d_Reader_find_4 : decode Y_Reader_find.2.1 4 = .ok (.getfield 22, 3) := by decide +kernel
theorem d_Reader_find_7 : decode Y_Reader_find.2.1 7 = .ok (.getfield 105, 3) := by decide +kernel
theorem d_Reader_find_10 : decode Y_Reader_find.2.1 10 = .ok (.if_icmp .ge 22, 3) := by decide +kernel
theorem d_Reader_find_13 : decode Y_Reader_find.2.1 13 = .ok (.aload_n 0, 1) := by decide +kernel
theorem d_Reader_find_14 : decode Y_Reader_find.2.1 14 = .ok (.getfield 18, 3) := by decide +kernel
theorem d_Reader_find_17 : decode Y_Reader_find.2.1 17 = .ok (.iload_n 3, 1) := by decide +kernel
theorem d_Reader_find_18 : decode Y_Reader_find.2.1 18 = .ok (.laload, 1) := by decide +kernel
theorem d_Reader_find_19 : decode Y_Reader_find.2.1 19 = .ok (.lload_n 1, 1) := by decide +kernel
theorem d_Reader_find_20 : decode Y_Reader_find.2.1 20 = .ok (.lcmp, 1) := by decide +kernel
theorem d_Reader_find_21 : decode Y_Reader_find.2.1 21 = .ok (.ifCond .ne 5, 3) := by decide +kernel
theorem d_Reader_find_24 : decode Y_Reader_find.2.1 24 = .ok (.iload_n 3, 1) := by decide +kernel
theorem d_Reader_find_25 : decode Y_Reader_find.2.1 25 = .ok (.ireturn, 1) := by decide +kernel
theorem d_Reader_find_26 : decode Y_Reader_find.2.1 26 = .ok (.iinc 3 1, 3) := by decide +kernel
theorem d_Reader_find_29 : decode Y_Reader_find.2.1 29 = .ok (.goto (-27), 3) := by decide +kernel
theorem d_Reader_find_32 : decode Y_Reader_find.2.1 32 = .ok (.iconst (-1), 1) := by decide +kernel
theorem d_Reader_find_33 : decode Y_Reader_find.2.1 33 = .ok (.ireturn, 1) := by decide +kernel
theorem e_Reader_find {l : Launch} {G : GT} {d : Nat} {P : Int → MM → Prop} {m : MM} (x1 : Int)  (H : wfM m → inL x1 → Wq l G false Y_Reader_find d (QI P) 2 [(0, .inr (.inr 2)), (1, .inr (.inl x1)), (3, .inl 0)] [] m) : CI l G Y_Reader_find d [.inr (.inr 2), .inr (.inl x1)] m P := by
  refine CI.of [(0, .inr (.inr 2)), (1, .inr (.inl x1))] k_Reader_find.1 (Nat.le_of_ble_eq_true rfl) rfl (Wp.wf (fun hw _ hl hs => ?_))
  have H0 := H hw (hl _ (List.mem_of_getElem? (i := 1) rfl))
  refine Wp.iconst d_Reader_find_0 (by decide) ?_
  refine Wp.istore_n 3 [(0, .inr (.inr 2)), (1, .inr (.inl x1)), (3, .inl 0)] d_Reader_find_1 rfl (by decide) rfl ?_
  exact H0
theorem s_Reader_find_2 {l : Launch} {G : GT} {d : Nat} {P : Int → MM → Prop} {m : MM} (x1 : Int) (x3 : Int)  (H : wfM m → inL x1 → inR x3 → ∃ b1 : Nat, m 2 2 = b1 ∧ isB b1 ∧ ((x3 ≥ (m b1 0) → (P (-1) m)) ∧ (¬ (x3 ≥ (m b1 0)) → ((0 ≤ x3 ∧ x3 < (5 : Int)) ∧ (((m 6 x3) ≠ x1 → ((inR (x3 + 1)) ∧ (Wq l G false Y_Reader_find d (QI P) 2 [(0, .inr (.inr 2)), (1, .inr (.inl x1)), (3, .inl (x3 + 1))] [] m))) ∧ (¬ ((m 6 x3) ≠ x1) → (P x3 m))))))) : Wq l G false Y_Reader_find d (QI P) 2 [(0, .inr (.inr 2)), (1, .inr (.inl x1)), (3, .inl x3)] [] m := by
  refine Wp.wf (fun hw _ hl hs => ?_)
  have H0 := H hw (hl _ (List.mem_of_getElem? (i := 1) rfl)) (hl _ (List.mem_of_getElem? (i := 2) rfl))
  refine Wp.iload_n 2 3 d_Reader_find_2 rfl rfl ?_
  refine Wp.aload_n 0 0 d_Reader_find_3 rfl rfl ?_
  obtain ⟨b1, hb2, hB3, H4⟩ := H0
  refine Wp.getR b1 d_Reader_find_4 fl_Reader_22 rfl (Or.inl rfl) rfl hb2 ?_
  refine Wq.getI 0 rfl d_Reader_find_7 fl_Reader_105 (isB_lay hB3) (Or.inl rfl) ?_
  obtain ⟨H6, H7⟩ := H4
  refine Wp.icmp_ge 32 d_Reader_find_10 (by decide) (fun c5 => ?_) (fun c5 => ?_)
  · have H8 := H6 c5
    refine Wp.iconst d_Reader_find_32 (by decide) ?_
    exact Wq.iret d_Reader_find_33 rfl H8
  · have H9 := H7 c5
    refine Wp.aload_n 0 0 d_Reader_find_13 rfl rfl ?_
    refine Wp.getP 6 d_Reader_find_14 fl_Reader_18 rfl rfl rfl ?_
    refine Wp.iload_n 2 3 d_Reader_find_17 rfl rfl ?_
    obtain ⟨s10, H11⟩ := H9
    refine Wp.lald d_Reader_find_18 rfl (Or.inl rfl) s10.1 s10.2 ?_
    refine Wp.lload_n 1 1 d_Reader_find_19 rfl rfl ?_
    obtain ⟨H13, H14⟩ := H11
    refine Wq.lif_ne 26 d_Reader_find_20 d_Reader_find_21 (by decide) (fun c12 => ?_) (fun c12 => ?_)
    · have H15 := H13 c12
      obtain ⟨s17, H18⟩ := H15
      refine Wp.iinc 2 3 [(0, .inr (.inr 2)), (1, .inr (.inl x1)), (3, .inl (x3 + 1))] d_Reader_find_26 rfl s17 (by decide) rfl ?_
      refine Wp.goto 2 d_Reader_find_29 (by decide) ?_
      exact H18
    · have H16 := H14 c12
      refine Wp.iload_n 2 3 d_Reader_find_24 rfl rfl ?_
      exact Wq.iret d_Reader_find_25 rfl H16
theorem d_Reader_readNumber_0 : decode Y_Reader_readNumber.2.1 0 = .ok (.aload_n 0, 1) := by decide +kernel
theorem d_Reader_readNumber_1 : decode Y_Reader_readNumber.2.1 1 = .ok (.getfield 41, 3) := by decide +kernel
theorem d_Reader_readNumber_4 : decode Y_Reader_readNumber.2.1 4 = .ok (.ifCond .eq 5, 3) := by decide +kernel
theorem d_Reader_readNumber_7 : decode Y_Reader_readNumber.2.1 7 = .ok (.iload_n 1, 1) := by decide +kernel
theorem d_Reader_readNumber_8 : decode Y_Reader_readNumber.2.1 8 = .ok (.ireturn, 1) := by decide +kernel
theorem d_Reader_readNumber_9 : decode Y_Reader_readNumber.2.1 9 = .ok (.aload_n 0, 1) := by decide +kernel
theorem d_Reader_readNumber_10 : decode Y_Reader_readNumber.2.1 10 = .ok (.getfield 12, 3) := by decide +kernel
theorem d_Reader_readNumber_13 : decode Y_Reader_readNumber.2.1 13 = .ok (.getfield 52, 3) := by decide +kernel
theorem d_Reader_readNumber_16 : decode Y_Reader_readNumber.2.1 16 = .ok (.iconst 3, 1) := by decide +kernel
theorem d_Reader_readNumber_17 : decode Y_Reader_readNumber.2.1 17 = .ok (.if_icmp .eq 9, 3) := by decide +kernel
theorem d_Reader_readNumber_20 : decode Y_Reader_readNumber.2.1 20 = .ok (.aload_n 0, 1) := by decide +kernel
theorem d_Reader_readNumber_21 : decode Y_Reader_readNumber.2.1 21 = .ok (.invokevirtual 73, 3) := by decide +kernel
theorem d_Reader_readNumber_24 : decode Y_Reader_readNumber.2.1 24 = .ok (.iload_n 1, 1) := by decide +kernel
theorem d_Reader_readNumber_25 : decode Y_Reader_readNumber.2.1 25 = .ok (.ireturn, 1) := by decide +kernel
theorem d_Reader_readNumber_26 : decode Y_Reader_readNumber.2.1 26 = .ok (.aload_n 0, 1) := by decide +kernel
theorem d_Reader_readNumber_27 : decode Y_Reader_readNumber.2.1 27 = .ok (.getfield 12, 3) := by decide +kernel
theorem d_Reader_readNumber_30 : decode Y_Reader_readNumber.2.1 30 = .ok (.getfield 108, 3) := by decide +kernel
theorem d_Reader_readNumber_33 : decode Y_Reader_readNumber.2.1 33 = .ok (.iload_n 1, 1) := by decide +kernel
theorem d_Reader_readNumber_34 : decode Y_Reader_readNumber.2.1 34 = .ok (.i2l, 1) := by decide +kernel
theorem d_Reader_readNumber_35 : decode Y_Reader_readNumber.2.1 35 = .ok (.lcmp, 1) := by decide +kernel
theorem d_Reader_readNumber_36 : decode Y_Reader_readNumber.2.1 36 = .ok (.ifCond .lt 16, 3) := by decide +kernel
theorem d_Reader_readNumber_39 : decode Y_Reader_readNumber.2.1 39 = .ok (.aload_n 0, 1) := by decide +kernel
theorem d_Reader_readNumber_40 : decode Y_Reader_readNumber.2.1 40 = .ok (.getfield 12, 3) := by decide +kernel
theorem d_Reader_readNumber_43 : decode Y_Reader_readNumber.2.1 43 = .ok (.getfield 108, 3) := by decide +kernel
theorem d_Reader_readNumber_46 : decode Y_Reader_readNumber.2.1 46 = .ok (.iload_n 2, 1) := by decide +kernel
theorem d_Reader_readNumber_47 : decode Y_Reader_readNumber.2.1 47 = .ok (.i2l, 1) := by decide +kernel
theorem d_Reader_readNumber_48 : decode Y_Reader_readNumber.2.1 48 = .ok (.lcmp, 1) := by decide +kernel
theorem d_Reader_readNumber_49 : decode Y_Reader_readNumber.2.1 49 = .ok (.ifCond .le 17, 3) := by decide +kernel
theorem d_Reader_readNumber_52 : decode Y_Reader_readNumber.2.1 52 = .ok (.aload_n 0, 1) := by decide +kernel
theorem d_Reader_readNumber_53 : decode Y_Reader_readNumber.2.1 53 = .ok (.iconst 4, 1) := by decide +kernel
theorem d_Reader_readNumber_54 : decode Y_Reader_readNumber.2.1 54 = .ok (.aload_n 0, 1) := by decide +kernel
theorem d_Reader_readNumber_55 : decode Y_Reader_readNumber.2.1 55 = .ok (.getfield 12, 3) := by decide +kernel
theorem d_Reader_readNumber_58 : decode Y_Reader_readNumber.2.1 58 = .ok (.getfield 66, 3) := by decide +kernel
theorem d_Reader_readNumber_61 : decode Y_Reader_readNumber.2.1 61 = .ok (.invokevirtual 62, 3) := by decide +kernel
theorem d_Reader_readNumber_64 : decode Y_Reader_readNumber.2.1 64 = .ok (.iload_n 1, 1) := by decide +kernel
theorem d_Reader_readNumber_65 : decode Y_Reader_readNumber.2.1 65 = .ok (.ireturn, 1) := by decide +kernel
theorem d_Reader_readNumber_66 : decode Y_Reader_readNumber.2.1 66 = .ok (.aload_n 0, 1) := by decide +kernel
theorem d_Reader_readNumber_67 : decode Y_Reader_readNumber.2.1 67 = .ok (.getfield 12, 3) := by decide +kernel
theorem d_Reader_readNumber_70 : decode Y_Reader_readNumber.2.1 70 = .ok (.getfield 108, 3) := by decide +kernel
theorem d_Reader_readNumber_73 : decode Y_Reader_readNumber.2.1 73 = .ok (.l2i, 1) := by decide +kernel
theorem d_Reader_readNumber_74 : decode Y_Reader_readNumber.2.1 74 = .ok (.istore_n 3, 1) := by decide +kernel
theorem d_Reader_readNumber_75 : decode Y_Reader_readNumber.2.1 75 = .ok (.aload_n 0, 1) := by decide +kernel
theorem d_Reader_readNumber_76 : decode Y_Reader_readNumber.2.1 76 = .ok (.getfield 12, 3) := by decide +kernel
theorem d_Reader_readNumber_79 : decode Y_Reader_readNumber.2.1 79 = .ok (.invokevirtual 76, 3) := by decide +kernel
theorem d_Reader_readNumber_82 : decode Y_Reader_readNumber.2.1 82 = .ok (.iload_n 3, 1) := by decide +kernel
theorem d_Reader_readNumber_83 : decode Y_Reader_readNumber.2.1 83 = .ok (.ireturn, 1) := by decide +kernel
theorem e_Reader_readNumber {l : Launch} {G : GT} {d : Nat} {P : Int → MM → Prop} {m : MM} (x1 : Int) (x2 : Int)  (H : wfM m → inR x1 → inR x2 → ((m 2 6) = 0 → (((m 3 4) = 3 → (((m 3 6) < x1 → (∃ (e16 : Nat) (P17 : MM → Prop), e16 < d ∧ CV l G Y_Reader_tellFault e16 [.inr (.inr 2), .inl 4, .inl (m 3 5)] m P17 ∧ (∀ m23, P17 m23 → wfM m23 → (P x1 m23)))) ∧ (¬ ((m 3 6) < x1) → (((m 3 6) ≤ x2 → ((inR (m 3 6)) ∧ (∃ (e34 : Nat) (P35 : MM → Prop), e34 < d ∧ CV l G Y_Tokens_next e34 [.inr (.inr 3)] m P35 ∧ (∀ m41, P35 m41 → wfM m41 → (P (m 3 6) m41))))) ∧ (¬ ((m 3 6) ≤ x2) → (∃ (e45 : Nat) (P46 : MM → Prop), e45 < d ∧ CV l G Y_Reader_tellFault e45 [.inr (.inr 2), .inl 4, .inl (m 3 5)] m P46 ∧ (∀ m52, P46 m52 → wfM m52 → (P x1 m52)))))))) ∧ (¬ ((m 3 4) = 3) → (∃ (e56 : Nat) (P57 : MM → Prop), e56 < d ∧ CV l G Y_Reader_refuseToken e56 [.inr (.inr 2)] m P57 ∧ (∀ m63, P57 m63 → wfM m63 → (P x1 m63)))))) ∧ (¬ ((m 2 6) = 0) → (P x1 m))) : CI l G Y_Reader_readNumber d [.inr (.inr 2), .inl x1, .inl x2] m P := by
  refine CI.of [(0, .inr (.inr 2)), (1, .inl x1), (2, .inl x2)] k_Reader_readNumber.1 (Nat.le_of_ble_eq_true rfl) rfl (Wp.wf (fun hw _ hl hs => ?_))
  have H0 := H hw (hl _ (List.mem_of_getElem? (i := 1) rfl)) (hl _ (List.mem_of_getElem? (i := 2) rfl))
  refine Wp.aload_n 0 0 d_Reader_readNumber_0 rfl rfl ?_
  refine Wq.getI 6 rfl d_Reader_readNumber_1 fl_Reader_41 rfl (Or.inl rfl) ?_
  obtain ⟨H2, H3⟩ := H0
  refine Wp.if_eq 9 d_Reader_readNumber_4 (by decide) (fun c1 => ?_) (fun c1 => ?_)
  · have H4 := H2 c1
    refine Wp.aload_n 0 0 d_Reader_readNumber_9 rfl rfl ?_
    refine Wp.getP 3 d_Reader_readNumber_10 fl_Reader_12 rfl rfl rfl ?_
    refine Wq.getI 4 rfl d_Reader_readNumber_13 fl_Reader_52 rfl (Or.inl rfl) ?_
    refine Wp.iconst d_Reader_readNumber_16 (by decide) ?_
    obtain ⟨H7, H8⟩ := H4
    refine Wp.icmp_eq 26 d_Reader_readNumber_17 (by decide) (fun c6 => ?_) (fun c6 => ?_)
    · have H9 := H7 c6
      refine Wp.aload_n 0 0 d_Reader_readNumber_26 rfl rfl ?_
      refine Wp.getP 3 d_Reader_readNumber_27 fl_Reader_12 rfl rfl rfl ?_
      refine Wq.getL 6 rfl d_Reader_readNumber_30 fl_Reader_108 rfl rfl ?_
      refine Wp.iload_n 1 1 d_Reader_readNumber_33 rfl rfl ?_
      refine Wp.i2l d_Reader_readNumber_34 ?_
      obtain ⟨H12, H13⟩ := H9
      refine Wq.lif_lt 52 d_Reader_readNumber_35 d_Reader_readNumber_36 (by decide) (fun c11 => ?_) (fun c11 => ?_)
      · have H14 := H12 c11
        refine Wp.aload_n 0 0 d_Reader_readNumber_52 rfl rfl ?_
        refine Wp.iconst d_Reader_readNumber_53 (by decide) ?_
        refine Wp.aload_n 0 0 d_Reader_readNumber_54 rfl rfl ?_
        refine Wp.getP 3 d_Reader_readNumber_55 fl_Reader_12 rfl rfl rfl ?_
        refine Wq.getI 5 rfl d_Reader_readNumber_58 fl_Reader_66 rfl (Or.inl rfl) ?_
        obtain ⟨e16, P17, hd18, ho19, H20⟩ := H14
        refine Wq.VV (st := []) [.inl 4, .inl (m 3 5)] d_Reader_readNumber_61 k_Reader_tellFault ml_Reader_62 rfl rfl rfl (fun h => by cases h) (Nat.le_of_ble_eq_true rfl) hd18 ho19 (fun m23 hp24 hw26 => ?_)
        have H21 := H20 m23 hp24 hw26
        refine Wp.iload_n 1 1 d_Reader_readNumber_64 rfl rfl ?_
        exact Wq.iret d_Reader_readNumber_65 rfl H21
      · have H15 := H13 c11
        refine Wp.aload_n 0 0 d_Reader_readNumber_39 rfl rfl ?_
        refine Wp.getP 3 d_Reader_readNumber_40 fl_Reader_12 rfl rfl rfl ?_
        refine Wq.getL 6 rfl d_Reader_readNumber_43 fl_Reader_108 rfl rfl ?_
        refine Wp.iload_n 2 2 d_Reader_readNumber_46 rfl rfl ?_
        refine Wp.i2l d_Reader_readNumber_47 ?_
        obtain ⟨H28, H29⟩ := H15
        refine Wq.lif_le 66 d_Reader_readNumber_48 d_Reader_readNumber_49 (by decide) (fun c27 => ?_) (fun c27 => ?_)
        · have H30 := H28 c27
          refine Wp.aload_n 0 0 d_Reader_readNumber_66 rfl rfl ?_
          refine Wp.getP 3 d_Reader_readNumber_67 fl_Reader_12 rfl rfl rfl ?_
          refine Wq.getL 6 rfl d_Reader_readNumber_70 fl_Reader_108 rfl rfl ?_
          obtain ⟨s32, H33⟩ := H30
          refine Wq.l2i d_Reader_readNumber_73 s32 ?_
          refine Wp.istore_n 3 [(0, .inr (.inr 2)), (1, .inl x1), (2, .inl x2), (3, .inl (m 3 6))] d_Reader_readNumber_74 rfl (by decide) rfl ?_
          refine Wp.aload_n 0 0 d_Reader_readNumber_75 rfl rfl ?_
          refine Wp.getP 3 d_Reader_readNumber_76 fl_Reader_12 rfl rfl rfl ?_
          obtain ⟨e34, P35, hd36, ho37, H38⟩ := H33
          refine Wq.VV (st := []) [] d_Reader_readNumber_79 k_Tokens_next ml_Reader_76 rfl rfl rfl (fun h => by cases h) (Nat.le_of_ble_eq_true rfl) hd36 ho37 (fun m41 hp42 hw44 => ?_)
          have H39 := H38 m41 hp42 hw44
          refine Wp.iload_n 3 3 d_Reader_readNumber_82 rfl rfl ?_
          exact Wq.iret d_Reader_readNumber_83 rfl H39
        · have H31 := H29 c27
          refine Wp.aload_n 0 0 d_Reader_readNumber_52 rfl rfl ?_
          refine Wp.iconst d_Reader_readNumber_53 (by decide) ?_
          refine Wp.aload_n 0 0 d_Reader_readNumber_54 rfl rfl ?_
          refine Wp.getP 3 d_Reader_readNumber_55 fl_Reader_12 rfl rfl rfl ?_
          refine Wq.getI 5 rfl d_Reader_readNumber_58 fl_Reader_66 rfl (Or.inl rfl) ?_
          obtain ⟨e45, P46, hd47, ho48, H49⟩ := H31
          refine Wq.VV (st := []) [.inl 4, .inl (m 3 5)] d_Reader_readNumber_61 k_Reader_tellFault ml_Reader_62 rfl rfl rfl (fun h => by cases h) (Nat.le_of_ble_eq_true rfl) hd47 ho48 (fun m52 hp53 hw55 => ?_)
          have H50 := H49 m52 hp53 hw55
          refine Wp.iload_n 1 1 d_Reader_readNumber_64 rfl rfl ?_
          exact Wq.iret d_Reader_readNumber_65 rfl H50
    · have H10 := H8 c6
      refine Wp.aload_n 0 0 d_Reader_readNumber_20 rfl rfl ?_
      obtain ⟨e56, P57, hd58, ho59, H60⟩ := H10
      refine Wq.VV (st := []) [] d_Reader_readNumber_21 k_Reader_refuseToken ml_Reader_73 rfl rfl rfl (fun h => by cases h) (Nat.le_of_ble_eq_true rfl) hd58 ho59 (fun m63 hp64 hw66 => ?_)
      have H61 := H60 m63 hp64 hw66
      refine Wp.iload_n 1 1 d_Reader_readNumber_24 rfl rfl ?_
      exact Wq.iret d_Reader_readNumber_25 rfl H61
  · have H5 := H3 c1
    refine Wp.iload_n 1 1 d_Reader_readNumber_7 rfl rfl ?_
    exact Wq.iret d_Reader_readNumber_8 rfl H5
theorem d_Reader_readChute_0 : decode Y_Reader_readChute.2.1 0 = .ok (.aload_n 0, 1) := by decide +kernel
theorem d_Reader_readChute_1 : decode Y_Reader_readChute.2.1 1 = .ok (.invokevirtual 120, 3) := by decide +kernel
theorem d_Reader_readChute_4 : decode Y_Reader_readChute.2.1 4 = .ok (.istore_n 1, 1) := by decide +kernel
theorem d_Reader_readChute_5 : decode Y_Reader_readChute.2.1 5 = .ok (.aload_n 0, 1) := by decide +kernel
theorem d_Reader_readChute_6 : decode Y_Reader_readChute.2.1 6 = .ok (.getfield 41, 3) := by decide +kernel
theorem d_Reader_readChute_9 : decode Y_Reader_readChute.2.1 9 = .ok (.ifCond .eq 4, 3) := by decide +kernel
theorem d_Reader_readChute_12 : decode Y_Reader_readChute.2.1 12 = .ok (.return_, 1) := by decide +kernel
theorem d_Reader_readChute_13 : decode Y_Reader_readChute.2.1 13 = .ok (.aload_n 0, 1) := by decide +kernel
theorem d_Reader_readChute_14 : decode Y_Reader_readChute.2.1 14 = .ok (.getfield 12, 3) := by decide +kernel
theorem d_Reader_readChute_17 : decode Y_Reader_readChute.2.1 17 = .ok (.invokevirtual 76, 3) := by decide +kernel
theorem d_Reader_readChute_20 : decode Y_Reader_readChute.2.1 20 = .ok (.aload_n 0, 1) := by decide +kernel
theorem d_Reader_readChute_21 : decode Y_Reader_readChute.2.1 21 = .ok (.invokevirtual 120, 3) := by decide +kernel
theorem d_Reader_readChute_24 : decode Y_Reader_readChute.2.1 24 = .ok (.istore_n 2, 1) := by decide +kernel
theorem d_Reader_readChute_25 : decode Y_Reader_readChute.2.1 25 = .ok (.aload_n 0, 1) := by decide +kernel
theorem d_Reader_readChute_26 : decode Y_Reader_readChute.2.1 26 = .ok (.getfield 41, 3) := by decide +kernel
theorem d_Reader_readChute_29 : decode Y_Reader_readChute.2.1 29 = .ok (.ifCond .eq 4, 3) := by decide +kernel
theorem d_Reader_readChute_32 : decode Y_Reader_readChute.2.1 32 = .ok (.return_, 1) := by decide +kernel
theorem d_Reader_readChute_33 : decode Y_Reader_readChute.2.1 33 = .ok (.iload_n 1, 1) := by decide +kernel
theorem d_Reader_readChute_34 : decode Y_Reader_readChute.2.1 34 = .ok (.iload_n 2, 1) := by decide +kernel
theorem d_Reader_readChute_35 : decode Y_Reader_readChute.2.1 35 = .ok (.if_icmp .eq 15, 3) := by decide +kernel
theorem d_Reader_readChute_38 : decode Y_Reader_readChute.2.1 38 = .ok (.aload_n 0, 1) := by decide +kernel
theorem d_Reader_readChute_39 : decode Y_Reader_readChute.2.1 39 = .ok (.getfield 22, 3) := by decide +kernel
theorem d_Reader_readChute_42 : decode Y_Reader_readChute.2.1 42 = .ok (.iload_n 1, 1) := by decide +kernel
theorem d_Reader_readChute_43 : decode Y_Reader_readChute.2.1 43 = .ok (.iload_n 2, 1) := by decide +kernel
theorem d_Reader_readChute_44 : decode Y_Reader_readChute.2.1 44 = .ok (.invokevirtual 124, 3) := by decide +kernel
theorem d_Reader_readChute_47 : decode Y_Reader_readChute.2.1 47 = .ok (.ifCond .le 16, 3) := by decide +kernel
theorem d_Reader_readChute_50 : decode Y_Reader_readChute.2.1 50 = .ok (.aload_n 0, 1) := by decide +kernel
theorem d_Reader_readChute_51 : decode Y_Reader_readChute.2.1 51 = .ok (.iconst 3, 1) := by decide +kernel
theorem d_Reader_readChute_52 : decode Y_Reader_readChute.2.1 52 = .ok (.aload_n 0, 1) := by decide +kernel
theorem d_Reader_readChute_53 : decode Y_Reader_readChute.2.1 53 = .ok (.getfield 12, 3) := by decide +kernel
theorem d_Reader_readChute_56 : decode Y_Reader_readChute.2.1 56 = .ok (.getfield 66, 3) := by decide +kernel
theorem d_Reader_readChute_59 : decode Y_Reader_readChute.2.1 59 = .ok (.invokevirtual 62, 3) := by decide +kernel
theorem d_Reader_readChute_62 : decode Y_Reader_readChute.2.1 62 = .ok (.return_, 1) := by decide +kernel
theorem d_Reader_readChute_63 : decode Y_Reader_readChute.2.1 63 = .ok (.aload_n 0, 1) := by decide +kernel
theorem d_Reader_readChute_64 : decode Y_Reader_readChute.2.1 64 = .ok (.getfield 12, 3) := by decide +kernel
theorem d_Reader_readChute_67 : decode Y_Reader_readChute.2.1 67 = .ok (.invokevirtual 76, 3) := by decide +kernel
theorem d_Reader_readChute_70 : decode Y_Reader_readChute.2.1 70 = .ok (.aload_n 0, 1) := by decide +kernel
theorem d_Reader_readChute_71 : decode Y_Reader_readChute.2.1 71 = .ok (.getfield 22, 3) := by decide +kernel
theorem d_Reader_readChute_74 : decode Y_Reader_readChute.2.1 74 = .ok (.iload_n 1, 1) := by decide +kernel
theorem d_Reader_readChute_75 : decode Y_Reader_readChute.2.1 75 = .ok (.iload_n 2, 1) := by decide +kernel
theorem d_Reader_readChute_76 : decode Y_Reader_readChute.2.1 76 = .ok (.aload_n 0, 1) := by decide +kernel
theorem d_Reader_readChute_77 : decode Y_Reader_readChute.2.1 77 = .ok (.invokevirtual 127, 3) := by decide +kernel
theorem d_Reader_readChute_80 : decode Y_Reader_readChute.2.1 80 = .ok (.invokevirtual 130, 3) := by decide +kernel
theorem d_Reader_readChute_83 : decode Y_Reader_readChute.2.1 83 = .ok (.return_, 1) := by decide +kernel
theorem e_Reader_readChute {l : Launch} {G : GT} {d : Nat} {P : MM → Prop} {m : MM}   (H : wfM m → ∃ (e1 : Nat) (P2 : Int → MM → Prop), e1 < d ∧ CI l G Y_Reader_knownPlate e1 [.inr (.inr 2)] m P2 ∧ (∀ z7 m8, P2 z7 m8 → inR z7 → wfM m8 → (((m8 2 6) = 0 → (∃ (e17 : Nat) (P18 : MM → Prop), e17 < d ∧ CV l G Y_Tokens_next e17 [.inr (.inr 3)] m8 P18 ∧ (∀ m24, P18 m24 → wfM m24 → (∃ (e28 : Nat) (P29 : Int → MM → Prop), e28 < d ∧ CI l G Y_Reader_knownPlate e28 [.inr (.inr 2)] m24 P29 ∧ (∀ z34 m35, P29 z34 m35 → inR z34 → wfM m35 → (((m35 2 6) = 0 → ((z7 = z34 → (∃ (e49 : Nat) (P50 : MM → Prop), e49 < d ∧ CV l G Y_Reader_tellFault e49 [.inr (.inr 2), .inl 3, .inl (m35 3 5)] m35 P50 ∧ (∀ m56, P50 m56 → wfM m56 → (P m56)))) ∧ (¬ (z7 = z34) → (∃ b60 : Nat, m35 2 2 = b60 ∧ isB b60 ∧ (∃ (e64 : Nat) (P65 : Int → MM → Prop), e64 < d ∧ CI l G Y_Board_width e64 [.inr (.inr b60), .inl z7, .inl z34] m35 P65 ∧ (∀ z70 m71, P65 z70 m71 → inR z70 → wfM m71 → ((z70 ≤ 0 → (∃ (e80 : Nat) (P81 : MM → Prop), e80 < d ∧ CV l G Y_Tokens_next e80 [.inr (.inr 3)] m71 P81 ∧ (∀ m87, P81 m87 → wfM m87 → (∃ b91 : Nat, m87 2 2 = b91 ∧ isB b91 ∧ (∃ (e95 : Nat) (P96 : Int → MM → Prop), e95 < d ∧ CI l G Y_Reader_readWidth e95 [.inr (.inr 2)] m87 P96 ∧ (∀ z101 m102, P96 z101 m102 → inR z101 → wfM m102 → (∃ (e106 : Nat) (P107 : MM → Prop), e106 < d ∧ CV l G Y_Board_join e106 [.inr (.inr b91), .inl z7, .inl z34, .inl z101] m102 P107 ∧ (∀ m113, P107 m113 → wfM m113 → (P m113))))))))) ∧ (¬ (z70 ≤ 0) → (∃ (e117 : Nat) (P118 : MM → Prop), e117 < d ∧ CV l G Y_Reader_tellFault e117 [.inr (.inr 2), .inl 3, .inl (m71 3 5)] m71 P118 ∧ (∀ m124, P118 m124 → wfM m124 → (P m124))))))))))) ∧ (¬ ((m35 2 6) = 0) → (P m35)))))))) ∧ (¬ ((m8 2 6) = 0) → (P m8))))) : CV l G Y_Reader_readChute d [.inr (.inr 2)] m P := by
  refine CV.of [(0, .inr (.inr 2))] k_Reader_readChute.1 (Nat.le_of_ble_eq_true rfl) rfl (Wp.wf (fun hw _ hl hs => ?_))
  have H0 := H hw
  refine Wp.aload_n 0 0 d_Reader_readChute_0 rfl rfl ?_
  obtain ⟨e1, P2, hd3, ho4, H5⟩ := H0
  refine Wq.VI (st := []) [] d_Reader_readChute_1 k_Reader_knownPlate ml_Reader_120 rfl rfl rfl (fun h => by cases h) (Nat.le_of_ble_eq_true rfl) hd3 ho4 (fun z7 m8 hp9 hz10 hw11 => ?_)
  have H6 := H5 z7 m8 hp9 hz10 hw11
  refine Wp.istore_n 1 [(0, .inr (.inr 2)), (1, .inl z7)] d_Reader_readChute_4 rfl (by decide) rfl ?_
  refine Wp.aload_n 0 0 d_Reader_readChute_5 rfl rfl ?_
  refine Wq.getI 6 rfl d_Reader_readChute_6 fl_Reader_41 rfl (Or.inl rfl) ?_
  obtain ⟨H13, H14⟩ := H6
  refine Wp.if_eq 13 d_Reader_readChute_9 (by decide) (fun c12 => ?_) (fun c12 => ?_)
  · have H15 := H13 c12
    refine Wp.aload_n 0 0 d_Reader_readChute_13 rfl rfl ?_
    refine Wp.getP 3 d_Reader_readChute_14 fl_Reader_12 rfl rfl rfl ?_
    obtain ⟨e17, P18, hd19, ho20, H21⟩ := H15
    refine Wq.VV (st := []) [] d_Reader_readChute_17 k_Tokens_next ml_Reader_76 rfl rfl rfl (fun h => by cases h) (Nat.le_of_ble_eq_true rfl) hd19 ho20 (fun m24 hp25 hw27 => ?_)
    have H22 := H21 m24 hp25 hw27
    refine Wp.aload_n 0 0 d_Reader_readChute_20 rfl rfl ?_
    obtain ⟨e28, P29, hd30, ho31, H32⟩ := H22
    refine Wq.VI (st := []) [] d_Reader_readChute_21 k_Reader_knownPlate ml_Reader_120 rfl rfl rfl (fun h => by cases h) (Nat.le_of_ble_eq_true rfl) hd30 ho31 (fun z34 m35 hp36 hz37 hw38 => ?_)
    have H33 := H32 z34 m35 hp36 hz37 hw38
    refine Wp.istore_n 2 [(0, .inr (.inr 2)), (1, .inl z7), (2, .inl z34)] d_Reader_readChute_24 rfl (by decide) rfl ?_
    refine Wp.aload_n 0 0 d_Reader_readChute_25 rfl rfl ?_
    refine Wq.getI 6 rfl d_Reader_readChute_26 fl_Reader_41 rfl (Or.inl rfl) ?_
    obtain ⟨H40, H41⟩ := H33
    refine Wp.if_eq 33 d_Reader_readChute_29 (by decide) (fun c39 => ?_) (fun c39 => ?_)
    · have H42 := H40 c39
      refine Wp.iload_n 1 1 d_Reader_readChute_33 rfl rfl ?_
      refine Wp.iload_n 2 2 d_Reader_readChute_34 rfl rfl ?_
      obtain ⟨H45, H46⟩ := H42
      refine Wp.icmp_eq 50 d_Reader_readChute_35 (by decide) (fun c44 => ?_) (fun c44 => ?_)
      · have H47 := H45 c44
        refine Wp.aload_n 0 0 d_Reader_readChute_50 rfl rfl ?_
        refine Wp.iconst d_Reader_readChute_51 (by decide) ?_
        refine Wp.aload_n 0 0 d_Reader_readChute_52 rfl rfl ?_
        refine Wp.getP 3 d_Reader_readChute_53 fl_Reader_12 rfl rfl rfl ?_
        refine Wq.getI 5 rfl d_Reader_readChute_56 fl_Reader_66 rfl (Or.inl rfl) ?_
        obtain ⟨e49, P50, hd51, ho52, H53⟩ := H47
        refine Wq.VV (st := []) [.inl 3, .inl (m35 3 5)] d_Reader_readChute_59 k_Reader_tellFault ml_Reader_62 rfl rfl rfl (fun h => by cases h) (Nat.le_of_ble_eq_true rfl) hd51 ho52 (fun m56 hp57 hw59 => ?_)
        have H54 := H53 m56 hp57 hw59
        exact Wq.vret d_Reader_readChute_62 rfl H54
      · have H48 := H46 c44
        refine Wp.aload_n 0 0 d_Reader_readChute_38 rfl rfl ?_
        obtain ⟨b60, hb61, hB62, H63⟩ := H48
        refine Wp.getR b60 d_Reader_readChute_39 fl_Reader_22 rfl (Or.inl rfl) rfl hb61 ?_
        refine Wp.iload_n 1 1 d_Reader_readChute_42 rfl rfl ?_
        refine Wp.iload_n 2 2 d_Reader_readChute_43 rfl rfl ?_
        obtain ⟨e64, P65, hd66, ho67, H68⟩ := H63
        refine Wq.VI (st := []) [.inl z7, .inl z34] d_Reader_readChute_44 k_Board_width ml_Reader_124 rfl (isB_lay hB62) rfl (fun h => by cases h) (Nat.le_of_ble_eq_true rfl) hd66 ho67 (fun z70 m71 hp72 hz73 hw74 => ?_)
        have H69 := H68 z70 m71 hp72 hz73 hw74
        obtain ⟨H76, H77⟩ := H69
        refine Wp.if_le 63 d_Reader_readChute_47 (by decide) (fun c75 => ?_) (fun c75 => ?_)
        · have H78 := H76 c75
          refine Wp.aload_n 0 0 d_Reader_readChute_63 rfl rfl ?_
          refine Wp.getP 3 d_Reader_readChute_64 fl_Reader_12 rfl rfl rfl ?_
          obtain ⟨e80, P81, hd82, ho83, H84⟩ := H78
          refine Wq.VV (st := []) [] d_Reader_readChute_67 k_Tokens_next ml_Reader_76 rfl rfl rfl (fun h => by cases h) (Nat.le_of_ble_eq_true rfl) hd82 ho83 (fun m87 hp88 hw90 => ?_)
          have H85 := H84 m87 hp88 hw90
          refine Wp.aload_n 0 0 d_Reader_readChute_70 rfl rfl ?_
          obtain ⟨b91, hb92, hB93, H94⟩ := H85
          refine Wp.getR b91 d_Reader_readChute_71 fl_Reader_22 rfl (Or.inl rfl) rfl hb92 ?_
          refine Wp.iload_n 1 1 d_Reader_readChute_74 rfl rfl ?_
          refine Wp.iload_n 2 2 d_Reader_readChute_75 rfl rfl ?_
          refine Wp.aload_n 0 0 d_Reader_readChute_76 rfl rfl ?_
          obtain ⟨e95, P96, hd97, ho98, H99⟩ := H94
          refine Wq.VI (st := [.inl z34, .inl z7, .inr (.inr b91)]) [] d_Reader_readChute_77 k_Reader_readWidth ml_Reader_127 rfl rfl rfl (fun h => by cases h) (Nat.le_of_ble_eq_true rfl) hd97 ho98 (fun z101 m102 hp103 hz104 hw105 => ?_)
          have H100 := H99 z101 m102 hp103 hz104 hw105
          obtain ⟨e106, P107, hd108, ho109, H110⟩ := H100
          refine Wq.VV (st := []) [.inl z7, .inl z34, .inl z101] d_Reader_readChute_80 k_Board_join ml_Reader_130 rfl (isB_lay hB93) rfl (fun h => by cases h) (Nat.le_of_ble_eq_true rfl) hd108 ho109 (fun m113 hp114 hw116 => ?_)
          have H111 := H110 m113 hp114 hw116
          exact Wq.vret d_Reader_readChute_83 rfl H111
        · have H79 := H77 c75
          refine Wp.aload_n 0 0 d_Reader_readChute_50 rfl rfl ?_
          refine Wp.iconst d_Reader_readChute_51 (by decide) ?_
          refine Wp.aload_n 0 0 d_Reader_readChute_52 rfl rfl ?_
          refine Wp.getP 3 d_Reader_readChute_53 fl_Reader_12 rfl rfl rfl ?_
          refine Wq.getI 5 rfl d_Reader_readChute_56 fl_Reader_66 rfl (Or.inl rfl) ?_
          obtain ⟨e117, P118, hd119, ho120, H121⟩ := H79
          refine Wq.VV (st := []) [.inl 3, .inl (m71 3 5)] d_Reader_readChute_59 k_Reader_tellFault ml_Reader_62 rfl rfl rfl (fun h => by cases h) (Nat.le_of_ble_eq_true rfl) hd119 ho120 (fun m124 hp125 hw127 => ?_)
          have H122 := H121 m124 hp125 hw127
          exact Wq.vret d_Reader_readChute_62 rfl H122
    · have H43 := H41 c39
      exact Wq.vret d_Reader_readChute_32 rfl H43
  · have H16 := H14 c12
    exact Wq.vret d_Reader_readChute_12 rfl H16
theorem d_Reader_knownPlate_0 : decode Y_Reader_knownPlate.2.1 0 = .ok (.aload_n 0, 1) := by decide +kernel
theorem d_Reader_knownPlate_1 : decode Y_Reader_knownPlate.2.1 1 = .ok (.getfield 41, 3) := by decide +kernel
theorem d_Reader_knownPlate_4 : decode Y_Reader_knownPlate.2.1 4 = .ok (.ifCond .eq 5, 3) := by decide +kernel
theorem d_Reader_knownPlate_7 : decode Y_Reader_knownPlate.2.1 7 = .ok (.iconst (-1), 1) := by decide +kernel
theorem d_Reader_knownPlate_8 : decode Y_Reader_knownPlate.2.1 8 = .ok (.ireturn, 1) := by decide +kernel
theorem d_Reader_knownPlate_9 : decode Y_Reader_knownPlate.2.1 9 = .ok (.aload_n 0, 1) := by decide +kernel
theorem d_Reader_knownPlate_10 : decode Y_Reader_knownPlate.2.1 10 = .ok (.getfield 12, 3) := by decide +kernel
theorem d_Reader_knownPlate_13 : decode Y_Reader_knownPlate.2.1 13 = .ok (.getfield 52, 3) := by decide +kernel
theorem d_Reader_knownPlate_16 : decode Y_Reader_knownPlate.2.1 16 = .ok (.iconst 2, 1) := by decide +kernel
theorem d_Reader_knownPlate_17 : decode Y_Reader_knownPlate.2.1 17 = .ok (.if_icmp .eq 9, 3) := by decide +kernel
theorem d_Reader_knownPlate_20 : decode Y_Reader_knownPlate.2.1 20 = .ok (.aload_n 0, 1) := by decide +kernel
theorem d_Reader_knownPlate_21 : decode Y_Reader_knownPlate.2.1 21 = .ok (.invokevirtual 73, 3) := by decide +kernel
theorem d_Reader_knownPlate_24 : decode Y_Reader_knownPlate.2.1 24 = .ok (.iconst (-1), 1) := by decide +kernel
theorem d_Reader_knownPlate_25 : decode Y_Reader_knownPlate.2.1 25 = .ok (.ireturn, 1) := by decide +kernel
theorem d_Reader_knownPlate_26 : decode Y_Reader_knownPlate.2.1 26 = .ok (.aload_n 0, 1) := by decide +kernel
theorem d_Reader_knownPlate_27 : decode Y_Reader_knownPlate.2.1 27 = .ok (.aload_n 0, 1) := by decide +kernel
theorem d_Reader_knownPlate_28 : decode Y_Reader_knownPlate.2.1 28 = .ok (.getfield 12, 3) := by decide +kernel
theorem d_Reader_knownPlate_31 : decode Y_Reader_knownPlate.2.1 31 = .ok (.getfield 108, 3) := by decide +kernel
theorem d_Reader_knownPlate_34 : decode Y_Reader_knownPlate.2.1 34 = .ok (.invokevirtual 112, 3) := by decide +kernel
theorem d_Reader_knownPlate_37 : decode Y_Reader_knownPlate.2.1 37 = .ok (.istore_n 1, 1) := by decide +kernel
theorem d_Reader_knownPlate_38 : decode Y_Reader_knownPlate.2.1 38 = .ok (.iload_n 1, 1) := by decide +kernel
theorem d_Reader_knownPlate_39 : decode Y_Reader_knownPlate.2.1 39 = .ok (.iconst (-1), 1) := by decide +kernel
theorem d_Reader_knownPlate_40 : decode Y_Reader_knownPlate.2.1 40 = .ok (.if_icmp .ne 15, 3) := by decide +kernel
theorem d_Reader_knownPlate_43 : decode Y_Reader_knownPlate.2.1 43 = .ok (.aload_n 0, 1) := by decide +kernel
theorem d_Reader_knownPlate_44 : decode Y_Reader_knownPlate.2.1 44 = .ok (.iconst 5, 1) := by decide +kernel
theorem d_Reader_knownPlate_45 : decode Y_Reader_knownPlate.2.1 45 = .ok (.aload_n 0, 1) := by decide +kernel
theorem d_Reader_knownPlate_46 : decode Y_Reader_knownPlate.2.1 46 = .ok (.getfield 12, 3) := by decide +kernel
theorem d_Reader_knownPlate_49 : decode Y_Reader_knownPlate.2.1 49 = .ok (.getfield 66, 3) := by decide +kernel
theorem d_Reader_knownPlate_52 : decode Y_Reader_knownPlate.2.1 52 = .ok (.invokevirtual 62, 3) := by decide +kernel
theorem d_Reader_knownPlate_55 : decode Y_Reader_knownPlate.2.1 55 = .ok (.iload_n 1, 1) := by decide +kernel
theorem d_Reader_knownPlate_56 : decode Y_Reader_knownPlate.2.1 56 = .ok (.ireturn, 1) := by decide +kernel
theorem e_Reader_knownPlate {l : Launch} {G : GT} {d : Nat} {P : Int → MM → Prop} {m : MM}   (H : wfM m → ((m 2 6) = 0 → (((m 3 4) = 2 → (∃ (e11 : Nat) (P12 : Int → MM → Prop), e11 < d ∧ CI l G Y_Reader_find e11 [.inr (.inr 2), .inr (.inl (m 3 6))] m P12 ∧ (∀ z17 m18, P12 z17 m18 → inR z17 → wfM m18 → ((z17 ≠ (-1) → (P z17 m18)) ∧ (¬ (z17 ≠ (-1)) → (∃ (e27 : Nat) (P28 : MM → Prop), e27 < d ∧ CV l G Y_Reader_tellFault e27 [.inr (.inr 2), .inl 5, .inl (m18 3 5)] m18 P28 ∧ (∀ m34, P28 m34 → wfM m34 → (P z17 m34)))))))) ∧ (¬ ((m 3 4) = 2) → (∃ (e38 : Nat) (P39 : MM → Prop), e38 < d ∧ CV l G Y_Reader_refuseToken e38 [.inr (.inr 2)] m P39 ∧ (∀ m45, P39 m45 → wfM m45 → (P (-1) m45)))))) ∧ (¬ ((m 2 6) = 0) → (P (-1) m))) : CI l G Y_Reader_knownPlate d [.inr (.inr 2)] m P := by
  refine CI.of [(0, .inr (.inr 2))] k_Reader_knownPlate.1 (Nat.le_of_ble_eq_true rfl) rfl (Wp.wf (fun hw _ hl hs => ?_))
  have H0 := H hw
  refine Wp.aload_n 0 0 d_Reader_knownPlate_0 rfl rfl ?_
  refine Wq.getI 6 rfl d_Reader_knownPlate_1 fl_Reader_41 rfl (Or.inl rfl) ?_
  obtain ⟨H2, H3⟩ := H0
  refine Wp.if_eq 9 d_Reader_knownPlate_4 (by decide) (fun c1 => ?_) (fun c1 => ?_)
  · have H4 := H2 c1
    refine Wp.aload_n 0 0 d_Reader_knownPlate_9 rfl rfl ?_
    refine Wp.getP 3 d_Reader_knownPlate_10 fl_Reader_12 rfl rfl rfl ?_
    refine Wq.getI 4 rfl d_Reader_knownPlate_13 fl_Reader_52 rfl (Or.inl rfl) ?_
    refine Wp.iconst d_Reader_knownPlate_16 (by decide) ?_
    obtain ⟨H7, H8⟩ := H4
    refine Wp.icmp_eq 26 d_Reader_knownPlate_17 (by decide) (fun c6 => ?_) (fun c6 => ?_)
    · have H9 := H7 c6
      refine Wp.aload_n 0 0 d_Reader_knownPlate_26 rfl rfl ?_
      refine Wp.aload_n 0 0 d_Reader_knownPlate_27 rfl rfl ?_
      refine Wp.getP 3 d_Reader_knownPlate_28 fl_Reader_12 rfl rfl rfl ?_
      refine Wq.getL 6 rfl d_Reader_knownPlate_31 fl_Reader_108 rfl rfl ?_
      obtain ⟨e11, P12, hd13, ho14, H15⟩ := H9
      refine Wq.VI (st := []) [.inr (.inl (m 3 6))] d_Reader_knownPlate_34 k_Reader_find ml_Reader_112 rfl rfl rfl (fun h => by cases h) (Nat.le_of_ble_eq_true rfl) hd13 ho14 (fun z17 m18 hp19 hz20 hw21 => ?_)
      have H16 := H15 z17 m18 hp19 hz20 hw21
      refine Wp.istore_n 1 [(0, .inr (.inr 2)), (1, .inl z17)] d_Reader_knownPlate_37 rfl (by decide) rfl ?_
      refine Wp.iload_n 1 1 d_Reader_knownPlate_38 rfl rfl ?_
      refine Wp.iconst d_Reader_knownPlate_39 (by decide) ?_
      obtain ⟨H23, H24⟩ := H16
      refine Wp.icmp_ne 55 d_Reader_knownPlate_40 (by decide) (fun c22 => ?_) (fun c22 => ?_)
      · have H25 := H23 c22
        refine Wp.iload_n 1 1 d_Reader_knownPlate_55 rfl rfl ?_
        exact Wq.iret d_Reader_knownPlate_56 rfl H25
      · have H26 := H24 c22
        refine Wp.aload_n 0 0 d_Reader_knownPlate_43 rfl rfl ?_
        refine Wp.iconst d_Reader_knownPlate_44 (by decide) ?_
        refine Wp.aload_n 0 0 d_Reader_knownPlate_45 rfl rfl ?_
        refine Wp.getP 3 d_Reader_knownPlate_46 fl_Reader_12 rfl rfl rfl ?_
        refine Wq.getI 5 rfl d_Reader_knownPlate_49 fl_Reader_66 rfl (Or.inl rfl) ?_
        obtain ⟨e27, P28, hd29, ho30, H31⟩ := H26
        refine Wq.VV (st := []) [.inl 5, .inl (m18 3 5)] d_Reader_knownPlate_52 k_Reader_tellFault ml_Reader_62 rfl rfl rfl (fun h => by cases h) (Nat.le_of_ble_eq_true rfl) hd29 ho30 (fun m34 hp35 hw37 => ?_)
        have H32 := H31 m34 hp35 hw37
        refine Wp.iload_n 1 1 d_Reader_knownPlate_55 rfl rfl ?_
        exact Wq.iret d_Reader_knownPlate_56 rfl H32
    · have H10 := H8 c6
      refine Wp.aload_n 0 0 d_Reader_knownPlate_20 rfl rfl ?_
      obtain ⟨e38, P39, hd40, ho41, H42⟩ := H10
      refine Wq.VV (st := []) [] d_Reader_knownPlate_21 k_Reader_refuseToken ml_Reader_73 rfl rfl rfl (fun h => by cases h) (Nat.le_of_ble_eq_true rfl) hd40 ho41 (fun m45 hp46 hw48 => ?_)
      have H43 := H42 m45 hp46 hw48
      refine Wp.iconst d_Reader_knownPlate_24 (by decide) ?_
      exact Wq.iret d_Reader_knownPlate_25 rfl H43
  · have H5 := H3 c1
    refine Wp.iconst d_Reader_knownPlate_7 (by decide) ?_
    exact Wq.iret d_Reader_knownPlate_8 rfl H5
theorem d_Reader_readWidth_0 : decode Y_Reader_readWidth.2.1 0 = .ok (.aload_n 0, 1) := by decide +kernel
theorem d_Reader_readWidth_1 : decode Y_Reader_readWidth.2.1 1 = .ok (.getfield 41, 3) := by decide +kernel
theorem d_Reader_readWidth_4 : decode Y_Reader_readWidth.2.1 4 = .ok (.ifCond .ne 15, 3) := by decide +kernel
theorem d_Reader_readWidth_7 : decode Y_Reader_readWidth.2.1 7 = .ok (.aload_n 0, 1) := by decide +kernel
theorem d_Reader_readWidth_8 : decode Y_Reader_readWidth.2.1 8 = .ok (.getfield 12, 3) := by decide +kernel
theorem d_Reader_readWidth_11 : decode Y_Reader_readWidth.2.1 11 = .ok (.getfield 52, 3) := by decide +kernel
theorem d_Reader_readWidth_14 : decode Y_Reader_readWidth.2.1 14 = .ok (.bipush 103, 2) := by decide +kernel
theorem d_Reader_readWidth_16 : decode Y_Reader_readWidth.2.1 16 = .ok (.if_icmp .eq 5, 3) := by decide +kernel
theorem d_Reader_readWidth_19 : decode Y_Reader_readWidth.2.1 19 = .ok (.iconst 1, 1) := by decide +kernel
theorem d_Reader_readWidth_20 : decode Y_Reader_readWidth.2.1 20 = .ok (.ireturn, 1) := by decide +kernel
theorem d_Reader_readWidth_21 : decode Y_Reader_readWidth.2.1 21 = .ok (.aload_n 0, 1) := by decide +kernel
theorem d_Reader_readWidth_22 : decode Y_Reader_readWidth.2.1 22 = .ok (.getfield 12, 3) := by decide +kernel
theorem d_Reader_readWidth_25 : decode Y_Reader_readWidth.2.1 25 = .ok (.invokevirtual 76, 3) := by decide +kernel
theorem d_Reader_readWidth_28 : decode Y_Reader_readWidth.2.1 28 = .ok (.aload_n 0, 1) := by decide +kernel
theorem d_Reader_readWidth_29 : decode Y_Reader_readWidth.2.1 29 = .ok (.iconst 1, 1) := by decide +kernel
theorem d_Reader_readWidth_30 : decode Y_Reader_readWidth.2.1 30 = .ok (.iconst 2, 1) := by decide +kernel
theorem d_Reader_readWidth_31 : decode Y_Reader_readWidth.2.1 31 = .ok (.invokevirtual 92, 3) := by decide +kernel
theorem d_Reader_readWidth_34 : decode Y_Reader_readWidth.2.1 34 = .ok (.ireturn, 1) := by decide +kernel
theorem e_Reader_readWidth {l : Launch} {G : GT} {d : Nat} {P : Int → MM → Prop} {m : MM}   (H : wfM m → ((m 2 6) ≠ 0 → (P 1 m)) ∧ (¬ ((m 2 6) ≠ 0) → (((m 3 4) = 103 → (∃ (e11 : Nat) (P12 : MM → Prop), e11 < d ∧ CV l G Y_Tokens_next e11 [.inr (.inr 3)] m P12 ∧ (∀ m18, P12 m18 → wfM m18 → (∃ (e22 : Nat) (P23 : Int → MM → Prop), e22 < d ∧ CI l G Y_Reader_readNumber e22 [.inr (.inr 2), .inl 1, .inl 2] m18 P23 ∧ (∀ z28 m29, P23 z28 m29 → inR z28 → wfM m29 → (P z28 m29)))))) ∧ (¬ ((m 3 4) = 103) → (P 1 m))))) : CI l G Y_Reader_readWidth d [.inr (.inr 2)] m P := by
  refine CI.of [(0, .inr (.inr 2))] k_Reader_readWidth.1 (Nat.le_of_ble_eq_true rfl) rfl (Wp.wf (fun hw _ hl hs => ?_))
  have H0 := H hw
  refine Wp.aload_n 0 0 d_Reader_readWidth_0 rfl rfl ?_
  refine Wq.getI 6 rfl d_Reader_readWidth_1 fl_Reader_41 rfl (Or.inl rfl) ?_
  obtain ⟨H2, H3⟩ := H0
  refine Wp.if_ne 19 d_Reader_readWidth_4 (by decide) (fun c1 => ?_) (fun c1 => ?_)
  · have H4 := H2 c1
    refine Wp.iconst d_Reader_readWidth_19 (by decide) ?_
    exact Wq.iret d_Reader_readWidth_20 rfl H4
  · have H5 := H3 c1
    refine Wp.aload_n 0 0 d_Reader_readWidth_7 rfl rfl ?_
    refine Wp.getP 3 d_Reader_readWidth_8 fl_Reader_12 rfl rfl rfl ?_
    refine Wq.getI 4 rfl d_Reader_readWidth_11 fl_Reader_52 rfl (Or.inl rfl) ?_
    refine Wp.bipush d_Reader_readWidth_14 (by decide) (by decide) ?_
    obtain ⟨H7, H8⟩ := H5
    refine Wp.icmp_eq 21 d_Reader_readWidth_16 (by decide) (fun c6 => ?_) (fun c6 => ?_)
    · have H9 := H7 c6
      refine Wp.aload_n 0 0 d_Reader_readWidth_21 rfl rfl ?_
      refine Wp.getP 3 d_Reader_readWidth_22 fl_Reader_12 rfl rfl rfl ?_
      obtain ⟨e11, P12, hd13, ho14, H15⟩ := H9
      refine Wq.VV (st := []) [] d_Reader_readWidth_25 k_Tokens_next ml_Reader_76 rfl rfl rfl (fun h => by cases h) (Nat.le_of_ble_eq_true rfl) hd13 ho14 (fun m18 hp19 hw21 => ?_)
      have H16 := H15 m18 hp19 hw21
      refine Wp.aload_n 0 0 d_Reader_readWidth_28 rfl rfl ?_
      refine Wp.iconst d_Reader_readWidth_29 (by decide) ?_
      refine Wp.iconst d_Reader_readWidth_30 (by decide) ?_
      obtain ⟨e22, P23, hd24, ho25, H26⟩ := H16
      refine Wq.VI (st := []) [.inl 1, .inl 2] d_Reader_readWidth_31 k_Reader_readNumber ml_Reader_92 rfl rfl rfl (fun h => by cases h) (Nat.le_of_ble_eq_true rfl) hd24 ho25 (fun z28 m29 hp30 hz31 hw32 => ?_)
      have H27 := H26 z28 m29 hp30 hz31 hw32
      exact Wq.iret d_Reader_readWidth_34 rfl H27
    · have H10 := H8 c6
      refine Wp.iconst d_Reader_readWidth_19 (by decide) ?_
      exact Wq.iret d_Reader_readWidth_20 rfl H10
theorem d_Reader_readDrain_0 : decode Y_Reader_readDrain.2.1 0 = .ok (.aload_n 0, 1) := by decide +kernel
theorem d_Reader_readDrain_1 : decode Y_Reader_readDrain.2.1 1 = .ok (.invokevirtual 120, 3) := by decide +kernel
theorem d_Reader_readDrain_4 : decode Y_Reader_readDrain.2.1 4 = .ok (.istore_n 1, 1) := by decide +kernel
theorem d_Reader_readDrain_5 : decode Y_Reader_readDrain.2.1 5 = .ok (.aload_n 0, 1) := by decide +kernel
theorem d_Reader_readDrain_6 : decode Y_Reader_readDrain.2.1 6 = .ok (.getfield 41, 3) := by decide +kernel
theorem d_Reader_readDrain_9 : decode Y_Reader_readDrain.2.1 9 = .ok (.ifCond .eq 4, 3) := by decide +kernel
theorem d_Reader_readDrain_12 : decode Y_Reader_readDrain.2.1 12 = .ok (.return_, 1) := by decide +kernel
theorem d_Reader_readDrain_13 : decode Y_Reader_readDrain.2.1 13 = .ok (.aload_n 0, 1) := by decide +kernel
theorem d_Reader_readDrain_14 : decode Y_Reader_readDrain.2.1 14 = .ok (.getfield 22, 3) := by decide +kernel
theorem d_Reader_readDrain_17 : decode Y_Reader_readDrain.2.1 17 = .ok (.getfield 134, 3) := by decide +kernel
theorem d_Reader_readDrain_20 : decode Y_Reader_readDrain.2.1 20 = .ok (.iload_n 1, 1) := by decide +kernel
theorem d_Reader_readDrain_21 : decode Y_Reader_readDrain.2.1 21 = .ok (.iaload, 1) := by decide +kernel
theorem d_Reader_readDrain_22 : decode Y_Reader_readDrain.2.1 22 = .ok (.ifCond .le 16, 3) := by decide +kernel
theorem d_Reader_readDrain_25 : decode Y_Reader_readDrain.2.1 25 = .ok (.aload_n 0, 1) := by decide +kernel
theorem d_Reader_readDrain_26 : decode Y_Reader_readDrain.2.1 26 = .ok (.iconst 3, 1) := by decide +kernel
theorem d_Reader_readDrain_27 : decode Y_Reader_readDrain.2.1 27 = .ok (.aload_n 0, 1) := by decide +kernel
theorem d_Reader_readDrain_28 : decode Y_Reader_readDrain.2.1 28 = .ok (.getfield 12, 3) := by decide +kernel
theorem d_Reader_readDrain_31 : decode Y_Reader_readDrain.2.1 31 = .ok (.getfield 66, 3) := by decide +kernel
theorem d_Reader_readDrain_34 : decode Y_Reader_readDrain.2.1 34 = .ok (.invokevirtual 62, 3) := by decide +kernel
theorem d_Reader_readDrain_37 : decode Y_Reader_readDrain.2.1 37 = .ok (.return_, 1) := by decide +kernel
theorem d_Reader_readDrain_38 : decode Y_Reader_readDrain.2.1 38 = .ok (.aload_n 0, 1) := by decide +kernel
theorem d_Reader_readDrain_39 : decode Y_Reader_readDrain.2.1 39 = .ok (.getfield 12, 3) := by decide +kernel
theorem d_Reader_readDrain_42 : decode Y_Reader_readDrain.2.1 42 = .ok (.invokevirtual 76, 3) := by decide +kernel
theorem d_Reader_readDrain_45 : decode Y_Reader_readDrain.2.1 45 = .ok (.aload_n 0, 1) := by decide +kernel
theorem d_Reader_readDrain_46 : decode Y_Reader_readDrain.2.1 46 = .ok (.getfield 22, 3) := by decide +kernel
theorem d_Reader_readDrain_49 : decode Y_Reader_readDrain.2.1 49 = .ok (.iload_n 1, 1) := by decide +kernel
theorem d_Reader_readDrain_50 : decode Y_Reader_readDrain.2.1 50 = .ok (.aload_n 0, 1) := by decide +kernel
theorem d_Reader_readDrain_51 : decode Y_Reader_readDrain.2.1 51 = .ok (.invokevirtual 127, 3) := by decide +kernel
theorem d_Reader_readDrain_54 : decode Y_Reader_readDrain.2.1 54 = .ok (.invokevirtual 137, 3) := by decide +kernel
theorem d_Reader_readDrain_57 : decode Y_Reader_readDrain.2.1 57 = .ok (.return_, 1) := by decide +kernel
theorem e_Reader_readDrain {l : Launch} {G : GT} {d : Nat} {P : MM → Prop} {m : MM}   (H : wfM m → ∃ (e1 : Nat) (P2 : Int → MM → Prop), e1 < d ∧ CI l G Y_Reader_knownPlate e1 [.inr (.inr 2)] m P2 ∧ (∀ z7 m8, P2 z7 m8 → inR z7 → wfM m8 → (((m8 2 6) = 0 → (∃ b17 : Nat, m8 2 2 = b17 ∧ isB b17 ∧ ((0 ≤ z7 ∧ z7 < (5 : Int)) ∧ (((m8 (b17 + 3) z7) ≤ 0 → (∃ (e28 : Nat) (P29 : MM → Prop), e28 < d ∧ CV l G Y_Tokens_next e28 [.inr (.inr 3)] m8 P29 ∧ (∀ m35, P29 m35 → wfM m35 → (∃ b39 : Nat, m35 2 2 = b39 ∧ isB b39 ∧ (∃ (e43 : Nat) (P44 : Int → MM → Prop), e43 < d ∧ CI l G Y_Reader_readWidth e43 [.inr (.inr 2)] m35 P44 ∧ (∀ z49 m50, P44 z49 m50 → inR z49 → wfM m50 → (∃ (e54 : Nat) (P55 : MM → Prop), e54 < d ∧ CV l G Y_Board_joinDrain e54 [.inr (.inr b39), .inl z7, .inl z49] m50 P55 ∧ (∀ m61, P55 m61 → wfM m61 → (P m61))))))))) ∧ (¬ ((m8 (b17 + 3) z7) ≤ 0) → (∃ (e65 : Nat) (P66 : MM → Prop), e65 < d ∧ CV l G Y_Reader_tellFault e65 [.inr (.inr 2), .inl 3, .inl (m8 3 5)] m8 P66 ∧ (∀ m72, P66 m72 → wfM m72 → (P m72)))))))) ∧ (¬ ((m8 2 6) = 0) → (P m8))))) : CV l G Y_Reader_readDrain d [.inr (.inr 2)] m P := by
  refine CV.of [(0, .inr (.inr 2))] k_Reader_readDrain.1 (Nat.le_of_ble_eq_true rfl) rfl (Wp.wf (fun hw _ hl hs => ?_))
  have H0 := H hw
  refine Wp.aload_n 0 0 d_Reader_readDrain_0 rfl rfl ?_
  obtain ⟨e1, P2, hd3, ho4, H5⟩ := H0
  refine Wq.VI (st := []) [] d_Reader_readDrain_1 k_Reader_knownPlate ml_Reader_120 rfl rfl rfl (fun h => by cases h) (Nat.le_of_ble_eq_true rfl) hd3 ho4 (fun z7 m8 hp9 hz10 hw11 => ?_)
  have H6 := H5 z7 m8 hp9 hz10 hw11
  refine Wp.istore_n 1 [(0, .inr (.inr 2)), (1, .inl z7)] d_Reader_readDrain_4 rfl (by decide) rfl ?_
  refine Wp.aload_n 0 0 d_Reader_readDrain_5 rfl rfl ?_
  refine Wq.getI 6 rfl d_Reader_readDrain_6 fl_Reader_41 rfl (Or.inl rfl) ?_
  obtain ⟨H13, H14⟩ := H6
  refine Wp.if_eq 13 d_Reader_readDrain_9 (by decide) (fun c12 => ?_) (fun c12 => ?_)
  · have H15 := H13 c12
    refine Wp.aload_n 0 0 d_Reader_readDrain_13 rfl rfl ?_
    obtain ⟨b17, hb18, hB19, H20⟩ := H15
    refine Wp.getR b17 d_Reader_readDrain_14 fl_Reader_22 rfl (Or.inl rfl) rfl hb18 ?_
    refine Wp.getP (b17 + 3) d_Reader_readDrain_17 fl_Reader_134 (isB_lay hB19) rfl (isB_p7 hB19) ?_
    refine Wp.iload_n 1 1 d_Reader_readDrain_20 rfl rfl ?_
    obtain ⟨s21, H22⟩ := H20
    refine Wp.iald d_Reader_readDrain_21 (isB_l7 hB19) (Or.inl rfl) s21.1 s21.2 ?_
    obtain ⟨H24, H25⟩ := H22
    refine Wp.if_le 38 d_Reader_readDrain_22 (by decide) (fun c23 => ?_) (fun c23 => ?_)
    · have H26 := H24 c23
      refine Wp.aload_n 0 0 d_Reader_readDrain_38 rfl rfl ?_
      refine Wp.getP 3 d_Reader_readDrain_39 fl_Reader_12 rfl rfl rfl ?_
      obtain ⟨e28, P29, hd30, ho31, H32⟩ := H26
      refine Wq.VV (st := []) [] d_Reader_readDrain_42 k_Tokens_next ml_Reader_76 rfl rfl rfl (fun h => by cases h) (Nat.le_of_ble_eq_true rfl) hd30 ho31 (fun m35 hp36 hw38 => ?_)
      have H33 := H32 m35 hp36 hw38
      refine Wp.aload_n 0 0 d_Reader_readDrain_45 rfl rfl ?_
      obtain ⟨b39, hb40, hB41, H42⟩ := H33
      refine Wp.getR b39 d_Reader_readDrain_46 fl_Reader_22 rfl (Or.inl rfl) rfl hb40 ?_
      refine Wp.iload_n 1 1 d_Reader_readDrain_49 rfl rfl ?_
      refine Wp.aload_n 0 0 d_Reader_readDrain_50 rfl rfl ?_
      obtain ⟨e43, P44, hd45, ho46, H47⟩ := H42
      refine Wq.VI (st := [.inl z7, .inr (.inr b39)]) [] d_Reader_readDrain_51 k_Reader_readWidth ml_Reader_127 rfl rfl rfl (fun h => by cases h) (Nat.le_of_ble_eq_true rfl) hd45 ho46 (fun z49 m50 hp51 hz52 hw53 => ?_)
      have H48 := H47 z49 m50 hp51 hz52 hw53
      obtain ⟨e54, P55, hd56, ho57, H58⟩ := H48
      refine Wq.VV (st := []) [.inl z7, .inl z49] d_Reader_readDrain_54 k_Board_joinDrain ml_Reader_137 rfl (isB_lay hB41) rfl (fun h => by cases h) (Nat.le_of_ble_eq_true rfl) hd56 ho57 (fun m61 hp62 hw64 => ?_)
      have H59 := H58 m61 hp62 hw64
      exact Wq.vret d_Reader_readDrain_57 rfl H59
    · have H27 := H25 c23
      refine Wp.aload_n 0 0 d_Reader_readDrain_25 rfl rfl ?_
      refine Wp.iconst d_Reader_readDrain_26 (by decide) ?_
      refine Wp.aload_n 0 0 d_Reader_readDrain_27 rfl rfl ?_
      refine Wp.getP 3 d_Reader_readDrain_28 fl_Reader_12 rfl rfl rfl ?_
      refine Wq.getI 5 rfl d_Reader_readDrain_31 fl_Reader_66 rfl (Or.inl rfl) ?_
      obtain ⟨e65, P66, hd67, ho68, H69⟩ := H27
      refine Wq.VV (st := []) [.inl 3, .inl (m8 3 5)] d_Reader_readDrain_34 k_Reader_tellFault ml_Reader_62 rfl rfl rfl (fun h => by cases h) (Nat.le_of_ble_eq_true rfl) hd67 ho68 (fun m72 hp73 hw75 => ?_)
      have H70 := H69 m72 hp73 hw75
      exact Wq.vret d_Reader_readDrain_37 rfl H70
  · have H16 := H14 c12
    exact Wq.vret d_Reader_readDrain_12 rfl H16
theorem d_Reader_readEither_0 : decode Y_Reader_readEither.2.1 0 = .ok (.aload_n 0, 1) := by decide +kernel
theorem d_Reader_readEither_1 : decode Y_Reader_readEither.2.1 1 = .ok (.iload_n 1, 1) := by decide +kernel
theorem d_Reader_readEither_2 : decode Y_Reader_readEither.2.1 2 = .ok (.invokevirtual 140, 3) := by decide +kernel
theorem d_Reader_readEither_5 : decode Y_Reader_readEither.2.1 5 = .ok (.iconst 0, 1) := by decide +kernel
theorem d_Reader_readEither_6 : decode Y_Reader_readEither.2.1 6 = .ok (.istore_n 2, 1) := by decide +kernel
theorem d_Reader_readEither_7 : decode Y_Reader_readEither.2.1 7 = .ok (.iload_n 2, 1) := by decide +kernel
theorem d_Reader_readEither_8 : decode Y_Reader_readEither.2.1 8 = .ok (.bipush 30, 2) := by decide +kernel
theorem d_Reader_readEither_10 : decode Y_Reader_readEither.2.1 10 = .ok (.if_icmp .ge 53, 3) := by decide +kernel
theorem d_Reader_readEither_13 : decode Y_Reader_readEither.2.1 13 = .ok (.aload_n 0, 1) := by decide +kernel
theorem d_Reader_readEither_14 : decode Y_Reader_readEither.2.1 14 = .ok (.getfield 41, 3) := by decide +kernel
theorem d_Reader_readEither_17 : decode Y_Reader_readEither.2.1 17 = .ok (.ifCond .ne 46, 3) := by decide +kernel
theorem d_Reader_readEither_20 : decode Y_Reader_readEither.2.1 20 = .ok (.aload_n 0, 1) := by decide +kernel
theorem d_Reader_readEither_21 : decode Y_Reader_readEither.2.1 21 = .ok (.getfield 12, 3) := by decide +kernel
theorem d_Reader_readEither_24 : decode Y_Reader_readEither.2.1 24 = .ok (.getfield 52, 3) := by decide +kernel
theorem d_Reader_readEither_27 : decode Y_Reader_readEither.2.1 27 = .ok (.bipush 108, 2) := by decide +kernel
theorem d_Reader_readEither_29 : decode Y_Reader_readEither.2.1 29 = .ok (.if_icmp .ne 34, 3) := by decide +kernel
theorem d_Reader_readEither_32 : decode Y_Reader_readEither.2.1 32 = .ok (.aload_n 0, 1) := by decide +kernel
theorem d_Reader_readEither_33 : decode Y_Reader_readEither.2.1 33 = .ok (.getfield 12, 3) := by decide +kernel
theorem d_Reader_readEither_36 : decode Y_Reader_readEither.2.1 36 = .ok (.invokevirtual 76, 3) := by decide +kernel
theorem d_Reader_readEither_39 : decode Y_Reader_readEither.2.1 39 = .ok (.aload_n 0, 1) := by decide +kernel
theorem d_Reader_readEither_40 : decode Y_Reader_readEither.2.1 40 = .ok (.iload_n 1, 1) := by decide +kernel
theorem d_Reader_readEither_41 : decode Y_Reader_readEither.2.1 41 = .ok (.invokevirtual 140, 3) := by decide +kernel
theorem d_Reader_readEither_44 : decode Y_Reader_readEither.2.1 44 = .ok (.aload_n 0, 1) := by decide +kernel
theorem d_Reader_readEither_45 : decode Y_Reader_readEither.2.1 45 = .ok (.getfield 22, 3) := by decide +kernel
theorem d_Reader_readEither_48 : decode Y_Reader_readEither.2.1 48 = .ok (.getfield 143, 3) := by decide +kernel
theorem d_Reader_readEither_51 : decode Y_Reader_readEither.2.1 51 = .ok (.sipush 10012, 3) := by decide +kernel
theorem d_Reader_readEither_54 : decode Y_Reader_readEither.2.1 54 = .ok (.invokevirtual 149, 3) := by decide +kernel
theorem d_Reader_readEither_57 : decode Y_Reader_readEither.2.1 57 = .ok (.iinc 2 1, 3) := by decide +kernel
theorem d_Reader_readEither_60 : decode Y_Reader_readEither.2.1 60 = .ok (.goto (-53), 3) := by decide +kernel
theorem d_Reader_readEither_63 : decode Y_Reader_readEither.2.1 63 = .ok (.return_, 1) := by decide +kernel
theorem e_Reader_readEither {l : Launch} {G : GT} {d : Nat} {P : MM → Prop} {m : MM} (x1 : Int)  (H : wfM m → inR x1 → ∃ (e1 : Nat) (P2 : MM → Prop), e1 < d ∧ CV l G Y_Reader_readBoth e1 [.inr (.inr 2), .inl x1] m P2 ∧ (∀ m8, P2 m8 → wfM m8 → (Wq l G false Y_Reader_readEither d (QV P) 7 [(0, .inr (.inr 2)), (1, .inl x1), (2, .inl 0)] [] m8))) : CV l G Y_Reader_readEither d [.inr (.inr 2), .inl x1] m P := by
  refine CV.of [(0, .inr (.inr 2)), (1, .inl x1)] k_Reader_readEither.1 (Nat.le_of_ble_eq_true rfl) rfl (Wp.wf (fun hw _ hl hs => ?_))
  have H0 := H hw (hl _ (List.mem_of_getElem? (i := 1) rfl))
  refine Wp.aload_n 0 0 d_Reader_readEither_0 rfl rfl ?_
  refine Wp.iload_n 1 1 d_Reader_readEither_1 rfl rfl ?_
  obtain ⟨e1, P2, hd3, ho4, H5⟩ := H0
  refine Wq.VV (st := []) [.inl x1] d_Reader_readEither_2 k_Reader_readBoth ml_Reader_140 rfl rfl rfl (fun h => by cases h) (Nat.le_of_ble_eq_true rfl) hd3 ho4 (fun m8 hp9 hw11 => ?_)
  have H6 := H5 m8 hp9 hw11
  refine Wp.iconst d_Reader_readEither_5 (by decide) ?_
  refine Wp.istore_n 2 [(0, .inr (.inr 2)), (1, .inl x1), (2, .inl 0)] d_Reader_readEither_6 rfl (by decide) rfl ?_
  exact H6
theorem s_Reader_readEither_7 {l : Launch} {G : GT} {d : Nat} {P : MM → Prop} {m : MM} (x1 : Int) (x2 : Int)  (H : wfM m → inR x1 → inR x2 → (x2 ≥ 30 → (P m)) ∧ (¬ (x2 ≥ 30) → (((m 2 6) ≠ 0 → (P m)) ∧ (¬ ((m 2 6) ≠ 0) → (((m 3 4) ≠ 108 → (P m)) ∧ (¬ ((m 3 4) ≠ 108) → (∃ (e16 : Nat) (P17 : MM → Prop), e16 < d ∧ CV l G Y_Tokens_next e16 [.inr (.inr 3)] m P17 ∧ (∀ m23, P17 m23 → wfM m23 → (∃ (e27 : Nat) (P28 : MM → Prop), e27 < d ∧ CV l G Y_Reader_readBoth e27 [.inr (.inr 2), .inl x1] m23 P28 ∧ (∀ m34, P28 m34 → wfM m34 → (∃ b38 : Nat, m34 2 2 = b38 ∧ isB b38 ∧ (∃ (e42 : Nat) (P43 : MM → Prop), e42 < d ∧ CV l G Y_Formula_add e42 [.inr (.inr (b38 + 6)), .inl 10012] m34 P43 ∧ (∀ m49, P43 m49 → wfM m49 → ((inR (x2 + 1)) ∧ (Wq l G false Y_Reader_readEither d (QV P) 7 [(0, .inr (.inr 2)), (1, .inl x1), (2, .inl (x2 + 1))] [] m49))))))))))))))) : Wq l G false Y_Reader_readEither d (QV P) 7 [(0, .inr (.inr 2)), (1, .inl x1), (2, .inl x2)] [] m := by
  refine Wp.wf (fun hw _ hl hs => ?_)
  have H0 := H hw (hl _ (List.mem_of_getElem? (i := 1) rfl)) (hl _ (List.mem_of_getElem? (i := 2) rfl))
  refine Wp.iload_n 2 2 d_Reader_readEither_7 rfl rfl ?_
  refine Wp.bipush d_Reader_readEither_8 (by decide) (by decide) ?_
  obtain ⟨H2, H3⟩ := H0
  refine Wp.icmp_ge 63 d_Reader_readEither_10 (by decide) (fun c1 => ?_) (fun c1 => ?_)
  · have H4 := H2 c1
    exact Wq.vret d_Reader_readEither_63 rfl H4
  · have H5 := H3 c1
    refine Wp.aload_n 0 0 d_Reader_readEither_13 rfl rfl ?_
    refine Wq.getI 6 rfl d_Reader_readEither_14 fl_Reader_41 rfl (Or.inl rfl) ?_
    obtain ⟨H7, H8⟩ := H5
    refine Wp.if_ne 63 d_Reader_readEither_17 (by decide) (fun c6 => ?_) (fun c6 => ?_)
    · have H9 := H7 c6
      exact Wq.vret d_Reader_readEither_63 rfl H9
    · have H10 := H8 c6
      refine Wp.aload_n 0 0 d_Reader_readEither_20 rfl rfl ?_
      refine Wp.getP 3 d_Reader_readEither_21 fl_Reader_12 rfl rfl rfl ?_
      refine Wq.getI 4 rfl d_Reader_readEither_24 fl_Reader_52 rfl (Or.inl rfl) ?_
      refine Wp.bipush d_Reader_readEither_27 (by decide) (by decide) ?_
      obtain ⟨H12, H13⟩ := H10
      refine Wp.icmp_ne 63 d_Reader_readEither_29 (by decide) (fun c11 => ?_) (fun c11 => ?_)
      · have H14 := H12 c11
        exact Wq.vret d_Reader_readEither_63 rfl H14
      · have H15 := H13 c11
        refine Wp.aload_n 0 0 d_Reader_readEither_32 rfl rfl ?_
        refine Wp.getP 3 d_Reader_readEither_33 fl_Reader_12 rfl rfl rfl ?_
        obtain ⟨e16, P17, hd18, ho19, H20⟩ := H15
        refine Wq.VV (st := []) [] d_Reader_readEither_36 k_Tokens_next ml_Reader_76 rfl rfl rfl (fun h => by cases h) (Nat.le_of_ble_eq_true rfl) hd18 ho19 (fun m23 hp24 hw26 => ?_)
        have H21 := H20 m23 hp24 hw26
        refine Wp.aload_n 0 0 d_Reader_readEither_39 rfl rfl ?_
        refine Wp.iload_n 1 1 d_Reader_readEither_40 rfl rfl ?_
        obtain ⟨e27, P28, hd29, ho30, H31⟩ := H21
        refine Wq.VV (st := []) [.inl x1] d_Reader_readEither_41 k_Reader_readBoth ml_Reader_140 rfl rfl rfl (fun h => by cases h) (Nat.le_of_ble_eq_true rfl) hd29 ho30 (fun m34 hp35 hw37 => ?_)
        have H32 := H31 m34 hp35 hw37
        refine Wp.aload_n 0 0 d_Reader_readEither_44 rfl rfl ?_
        obtain ⟨b38, hb39, hB40, H41⟩ := H32
        refine Wp.getR b38 d_Reader_readEither_45 fl_Reader_22 rfl (Or.inl rfl) rfl hb39 ?_
        refine Wp.getP (b38 + 6) d_Reader_readEither_48 fl_Reader_143 (isB_lay hB40) rfl (isB_p10 hB40) ?_
        refine Wp.sipush d_Reader_readEither_51 (by decide) (by decide) ?_
        obtain ⟨e42, P43, hd44, ho45, H46⟩ := H41
        refine Wq.VV (st := []) [.inl 10012] d_Reader_readEither_54 k_Formula_add ml_Reader_149 rfl (isF_lay (isB_f hB40)) rfl (fun h => by cases h) (Nat.le_of_ble_eq_true rfl) hd44 ho45 (fun m49 hp50 hw52 => ?_)
        have H47 := H46 m49 hp50 hw52
        obtain ⟨s53, H54⟩ := H47
        refine Wp.iinc 2 2 [(0, .inr (.inr 2)), (1, .inl x1), (2, .inl (x2 + 1))] d_Reader_readEither_57 rfl s53 (by decide) rfl ?_
        refine Wp.goto 7 d_Reader_readEither_60 (by decide) ?_
        exact H54
theorem d_Reader_readBoth_0 : decode Y_Reader_readBoth.2.1 0 = .ok (.aload_n 0, 1) := by decide +kernel
theorem d_Reader_readBoth_1 : decode Y_Reader_readBoth.2.1 1 = .ok (.iload_n 1, 1) := by decide +kernel
theorem d_Reader_readBoth_2 : decode Y_Reader_readBoth.2.1 2 = .ok (.invokevirtual 152, 3) := by decide +kernel
theorem d_Reader_readBoth_5 : decode Y_Reader_readBoth.2.1 5 = .ok (.iconst 0, 1) := by decide +kernel
theorem d_Reader_readBoth_6 : decode Y_Reader_readBoth.2.1 6 = .ok (.istore_n 2, 1) := by decide +kernel
theorem d_Reader_readBoth_7 : decode Y_Reader_readBoth.2.1 7 = .ok (.iload_n 2, 1) := by decide +kernel
theorem d_Reader_readBoth_8 : decode Y_Reader_readBoth.2.1 8 = .ok (.bipush 30, 2) := by decide +kernel
theorem d_Reader_readBoth_10 : decode Y_Reader_readBoth.2.1 10 = .ok (.if_icmp .ge 53, 3) := by decide +kernel
theorem d_Reader_readBoth_13 : decode Y_Reader_readBoth.2.1 13 = .ok (.aload_n 0, 1) := by decide +kernel
theorem d_Reader_readBoth_14 : decode Y_Reader_readBoth.2.1 14 = .ok (.getfield 41, 3) := by decide +kernel
theorem d_Reader_readBoth_17 : decode Y_Reader_readBoth.2.1 17 = .ok (.ifCond .ne 46, 3) := by decide +kernel
theorem d_Reader_readBoth_20 : decode Y_Reader_readBoth.2.1 20 = .ok (.aload_n 0, 1) := by decide +kernel
theorem d_Reader_readBoth_21 : decode Y_Reader_readBoth.2.1 21 = .ok (.getfield 12, 3) := by decide +kernel
theorem d_Reader_readBoth_24 : decode Y_Reader_readBoth.2.1 24 = .ok (.getfield 52, 3) := by decide +kernel
theorem d_Reader_readBoth_27 : decode Y_Reader_readBoth.2.1 27 = .ok (.bipush 109, 2) := by decide +kernel
theorem d_Reader_readBoth_29 : decode Y_Reader_readBoth.2.1 29 = .ok (.if_icmp .ne 34, 3) := by decide +kernel
theorem d_Reader_readBoth_32 : decode Y_Reader_readBoth.2.1 32 = .ok (.aload_n 0, 1) := by decide +kernel
theorem d_Reader_readBoth_33 : decode Y_Reader_readBoth.2.1 33 = .ok (.getfield 12, 3) := by decide +kernel
theorem d_Reader_readBoth_36 : decode Y_Reader_readBoth.2.1 36 = .ok (.invokevirtual 76, 3) := by decide +kernel
theorem d_Reader_readBoth_39 : decode Y_Reader_readBoth.2.1 39 = .ok (.aload_n 0, 1) := by decide +kernel
theorem d_Reader_readBoth_40 : decode Y_Reader_readBoth.2.1 40 = .ok (.iload_n 1, 1) := by decide +kernel
theorem d_Reader_readBoth_41 : decode Y_Reader_readBoth.2.1 41 = .ok (.invokevirtual 152, 3) := by decide +kernel
theorem d_Reader_readBoth_44 : decode Y_Reader_readBoth.2.1 44 = .ok (.aload_n 0, 1) := by decide +kernel
theorem d_Reader_readBoth_45 : decode Y_Reader_readBoth.2.1 45 = .ok (.getfield 22, 3) := by decide +kernel
theorem d_Reader_readBoth_48 : decode Y_Reader_readBoth.2.1 48 = .ok (.getfield 143, 3) := by decide +kernel
theorem d_Reader_readBoth_51 : decode Y_Reader_readBoth.2.1 51 = .ok (.sipush 10011, 3) := by decide +kernel
theorem d_Reader_readBoth_54 : decode Y_Reader_readBoth.2.1 54 = .ok (.invokevirtual 149, 3) := by decide +kernel
theorem d_Reader_readBoth_57 : decode Y_Reader_readBoth.2.1 57 = .ok (.iinc 2 1, 3) := by decide +kernel
theorem d_Reader_readBoth_60 : decode Y_Reader_readBoth.2.1 60 = .ok (.goto (-53), 3) := by decide +kernel
theorem d_Reader_readBoth_63 : decode Y_Reader_readBoth.2.1 63 = .ok (.return_, 1) := by decide +kernel
theorem e_Reader_readBoth {l : Launch} {G : GT} {d : Nat} {P : MM → Prop} {m : MM} (x1 : Int)  (H : wfM m → inR x1 → ∃ (e1 : Nat) (P2 : MM → Prop), e1 < d ∧ CV l G Y_Reader_readOne e1 [.inr (.inr 2), .inl x1] m P2 ∧ (∀ m8, P2 m8 → wfM m8 → (Wq l G false Y_Reader_readBoth d (QV P) 7 [(0, .inr (.inr 2)), (1, .inl x1), (2, .inl 0)] [] m8))) : CV l G Y_Reader_readBoth d [.inr (.inr 2), .inl x1] m P := by
  refine CV.of [(0, .inr (.inr 2)), (1, .inl x1)] k_Reader_readBoth.1 (Nat.le_of_ble_eq_true rfl) rfl (Wp.wf (fun hw _ hl hs => ?_))
  have H0 := H hw (hl _ (List.mem_of_getElem? (i := 1) rfl))
  refine Wp.aload_n 0 0 d_Reader_readBoth_0 rfl rfl ?_
  refine Wp.iload_n 1 1 d_Reader_readBoth_1 rfl rfl ?_
  obtain ⟨e1, P2, hd3, ho4, H5⟩ := H0
  refine Wq.VV (st := []) [.inl x1] d_Reader_readBoth_2 k_Reader_readOne ml_Reader_152 rfl rfl rfl (fun h => by cases h) (Nat.le_of_ble_eq_true rfl) hd3 ho4 (fun m8 hp9 hw11 => ?_)
  have H6 := H5 m8 hp9 hw11
  refine Wp.iconst d_Reader_readBoth_5 (by decide) ?_
  refine Wp.istore_n 2 [(0, .inr (.inr 2)), (1, .inl x1), (2, .inl 0)] d_Reader_readBoth_6 rfl (by decide) rfl ?_
  exact H6
theorem s_Reader_readBoth_7 {l : Launch} {G : GT} {d : Nat} {P : MM → Prop} {m : MM} (x1 : Int) (x2 : Int)  (H : wfM m → inR x1 → inR x2 → (x2 ≥ 30 → (P m)) ∧ (¬ (x2 ≥ 30) → (((m 2 6) ≠ 0 → (P m)) ∧ (¬ ((m 2 6) ≠ 0) → (((m 3 4) ≠ 109 → (P m)) ∧ (¬ ((m 3 4) ≠ 109) → (∃ (e16 : Nat) (P17 : MM → Prop), e16 < d ∧ CV l G Y_Tokens_next e16 [.inr (.inr 3)] m P17 ∧ (∀ m23, P17 m23 → wfM m23 → (∃ (e27 : Nat) (P28 : MM → Prop), e27 < d ∧ CV l G Y_Reader_readOne e27 [.inr (.inr 2), .inl x1] m23 P28 ∧ (∀ m34, P28 m34 → wfM m34 → (∃ b38 : Nat, m34 2 2 = b38 ∧ isB b38 ∧ (∃ (e42 : Nat) (P43 : MM → Prop), e42 < d ∧ CV l G Y_Formula_add e42 [.inr (.inr (b38 + 6)), .inl 10011] m34 P43 ∧ (∀ m49, P43 m49 → wfM m49 → ((inR (x2 + 1)) ∧ (Wq l G false Y_Reader_readBoth d (QV P) 7 [(0, .inr (.inr 2)), (1, .inl x1), (2, .inl (x2 + 1))] [] m49))))))))))))))) : Wq l G false Y_Reader_readBoth d (QV P) 7 [(0, .inr (.inr 2)), (1, .inl x1), (2, .inl x2)] [] m := by
  refine Wp.wf (fun hw _ hl hs => ?_)
  have H0 := H hw (hl _ (List.mem_of_getElem? (i := 1) rfl)) (hl _ (List.mem_of_getElem? (i := 2) rfl))
  refine Wp.iload_n 2 2 d_Reader_readBoth_7 rfl rfl ?_
  refine Wp.bipush d_Reader_readBoth_8 (by decide) (by decide) ?_
  obtain ⟨H2, H3⟩ := H0
  refine Wp.icmp_ge 63 d_Reader_readBoth_10 (by decide) (fun c1 => ?_) (fun c1 => ?_)
  · have H4 := H2 c1
    exact Wq.vret d_Reader_readBoth_63 rfl H4
  · have H5 := H3 c1
    refine Wp.aload_n 0 0 d_Reader_readBoth_13 rfl rfl ?_
    refine Wq.getI 6 rfl d_Reader_readBoth_14 fl_Reader_41 rfl (Or.inl rfl) ?_
    obtain ⟨H7, H8⟩ := H5
    refine Wp.if_ne 63 d_Reader_readBoth_17 (by decide) (fun c6 => ?_) (fun c6 => ?_)
    · have H9 := H7 c6
      exact Wq.vret d_Reader_readBoth_63 rfl H9
    · have H10 := H8 c6
      refine Wp.aload_n 0 0 d_Reader_readBoth_20 rfl rfl ?_
      refine Wp.getP 3 d_Reader_readBoth_21 fl_Reader_12 rfl rfl rfl ?_
      refine Wq.getI 4 rfl d_Reader_readBoth_24 fl_Reader_52 rfl (Or.inl rfl) ?_
      refine Wp.bipush d_Reader_readBoth_27 (by decide) (by decide) ?_
      obtain ⟨H12, H13⟩ := H10
      refine Wp.icmp_ne 63 d_Reader_readBoth_29 (by decide) (fun c11 => ?_) (fun c11 => ?_)
      · have H14 := H12 c11
        exact Wq.vret d_Reader_readBoth_63 rfl H14
      · have H15 := H13 c11
        refine Wp.aload_n 0 0 d_Reader_readBoth_32 rfl rfl ?_
        refine Wp.getP 3 d_Reader_readBoth_33 fl_Reader_12 rfl rfl rfl ?_
        obtain ⟨e16, P17, hd18, ho19, H20⟩ := H15
        refine Wq.VV (st := []) [] d_Reader_readBoth_36 k_Tokens_next ml_Reader_76 rfl rfl rfl (fun h => by cases h) (Nat.le_of_ble_eq_true rfl) hd18 ho19 (fun m23 hp24 hw26 => ?_)
        have H21 := H20 m23 hp24 hw26
        refine Wp.aload_n 0 0 d_Reader_readBoth_39 rfl rfl ?_
        refine Wp.iload_n 1 1 d_Reader_readBoth_40 rfl rfl ?_
        obtain ⟨e27, P28, hd29, ho30, H31⟩ := H21
        refine Wq.VV (st := []) [.inl x1] d_Reader_readBoth_41 k_Reader_readOne ml_Reader_152 rfl rfl rfl (fun h => by cases h) (Nat.le_of_ble_eq_true rfl) hd29 ho30 (fun m34 hp35 hw37 => ?_)
        have H32 := H31 m34 hp35 hw37
        refine Wp.aload_n 0 0 d_Reader_readBoth_44 rfl rfl ?_
        obtain ⟨b38, hb39, hB40, H41⟩ := H32
        refine Wp.getR b38 d_Reader_readBoth_45 fl_Reader_22 rfl (Or.inl rfl) rfl hb39 ?_
        refine Wp.getP (b38 + 6) d_Reader_readBoth_48 fl_Reader_143 (isB_lay hB40) rfl (isB_p10 hB40) ?_
        refine Wp.sipush d_Reader_readBoth_51 (by decide) (by decide) ?_
        obtain ⟨e42, P43, hd44, ho45, H46⟩ := H41
        refine Wq.VV (st := []) [.inl 10011] d_Reader_readBoth_54 k_Formula_add ml_Reader_149 rfl (isF_lay (isB_f hB40)) rfl (fun h => by cases h) (Nat.le_of_ble_eq_true rfl) hd44 ho45 (fun m49 hp50 hw52 => ?_)
        have H47 := H46 m49 hp50 hw52
        obtain ⟨s53, H54⟩ := H47
        refine Wp.iinc 2 2 [(0, .inr (.inr 2)), (1, .inl x1), (2, .inl (x2 + 1))] d_Reader_readBoth_57 rfl s53 (by decide) rfl ?_
        refine Wp.goto 7 d_Reader_readBoth_60 (by decide) ?_
        exact H54
theorem d_Reader_readOne_0 : decode Y_Reader_readOne.2.1 0 = .ok (.aload_n 0, 1) := by decide +kernel
theorem d_Reader_readOne_1 : decode Y_Reader_readOne.2.1 1 = .ok (.getfield 12, 3) := by decide +kernel
theorem d_Reader_readOne_4 : decode Y_Reader_readOne.2.1 4 = .ok (.getfield 52, 3) := by decide +kernel
theorem d_Reader_readOne_7 : decode Y_Reader_readOne.2.1 7 = .ok (.bipush 110, 2) := by decide +kernel
theorem d_Reader_readOne_9 : decode Y_Reader_readOne.2.1 9 = .ok (.if_icmp .ne 9, 3) := by decide +kernel
theorem d_Reader_readOne_12 : decode Y_Reader_readOne.2.1 12 = .ok (.aload_n 0, 1) := by decide +kernel
theorem d_Reader_readOne_13 : decode Y_Reader_readOne.2.1 13 = .ok (.iload_n 1, 1) := by decide +kernel
theorem d_Reader_readOne_14 : decode Y_Reader_readOne.2.1 14 = .ok (.invokevirtual 155, 3) := by decide +kernel
theorem d_Reader_readOne_17 : decode Y_Reader_readOne.2.1 17 = .ok (.return_, 1) := by decide +kernel
theorem d_Reader_readOne_18 : decode Y_Reader_readOne.2.1 18 = .ok (.aload_n 0, 1) := by decide +kernel
theorem d_Reader_readOne_19 : decode Y_Reader_readOne.2.1 19 = .ok (.iload_n 1, 1) := by decide +kernel
theorem d_Reader_readOne_20 : decode Y_Reader_readOne.2.1 20 = .ok (.invokevirtual 158, 3) := by decide +kernel
theorem d_Reader_readOne_23 : decode Y_Reader_readOne.2.1 23 = .ok (.aload_n 0, 1) := by decide +kernel
theorem d_Reader_readOne_24 : decode Y_Reader_readOne.2.1 24 = .ok (.getfield 12, 3) := by decide +kernel
theorem d_Reader_readOne_27 : decode Y_Reader_readOne.2.1 27 = .ok (.getfield 52, 3) := by decide +kernel
theorem d_Reader_readOne_30 : decode Y_Reader_readOne.2.1 30 = .ok (.invokestatic 161, 3) := by decide +kernel
theorem d_Reader_readOne_33 : decode Y_Reader_readOne.2.1 33 = .ok (.istore_n 2, 1) := by decide +kernel
theorem d_Reader_readOne_34 : decode Y_Reader_readOne.2.1 34 = .ok (.aload_n 0, 1) := by decide +kernel
theorem d_Reader_readOne_35 : decode Y_Reader_readOne.2.1 35 = .ok (.getfield 41, 3) := by decide +kernel
theorem d_Reader_readOne_38 : decode Y_Reader_readOne.2.1 38 = .ok (.ifCond .ne 31, 3) := by decide +kernel
theorem d_Reader_readOne_41 : decode Y_Reader_readOne.2.1 41 = .ok (.iload_n 2, 1) := by decide +kernel
theorem d_Reader_readOne_42 : decode Y_Reader_readOne.2.1 42 = .ok (.iconst (-1), 1) := by decide +kernel
theorem d_Reader_readOne_43 : decode Y_Reader_readOne.2.1 43 = .ok (.if_icmp .eq 26, 3) := by decide +kernel
theorem d_Reader_readOne_46 : decode Y_Reader_readOne.2.1 46 = .ok (.aload_n 0, 1) := by decide +kernel
theorem d_Reader_readOne_47 : decode Y_Reader_readOne.2.1 47 = .ok (.getfield 12, 3) := by decide +kernel
theorem d_Reader_readOne_50 : decode Y_Reader_readOne.2.1 50 = .ok (.invokevirtual 76, 3) := by decide +kernel
theorem d_Reader_readOne_53 : decode Y_Reader_readOne.2.1 53 = .ok (.aload_n 0, 1) := by decide +kernel
theorem d_Reader_readOne_54 : decode Y_Reader_readOne.2.1 54 = .ok (.iload_n 1, 1) := by decide +kernel
theorem d_Reader_readOne_55 : decode Y_Reader_readOne.2.1 55 = .ok (.invokevirtual 158, 3) := by decide +kernel
theorem d_Reader_readOne_58 : decode Y_Reader_readOne.2.1 58 = .ok (.aload_n 0, 1) := by decide +kernel
theorem d_Reader_readOne_59 : decode Y_Reader_readOne.2.1 59 = .ok (.getfield 22, 3) := by decide +kernel
theorem d_Reader_readOne_62 : decode Y_Reader_readOne.2.1 62 = .ok (.getfield 143, 3) := by decide +kernel
theorem d_Reader_readOne_65 : decode Y_Reader_readOne.2.1 65 = .ok (.iload_n 2, 1) := by decide +kernel
theorem d_Reader_readOne_66 : decode Y_Reader_readOne.2.1 66 = .ok (.invokevirtual 149, 3) := by decide +kernel
theorem d_Reader_readOne_69 : decode Y_Reader_readOne.2.1 69 = .ok (.return_, 1) := by decide +kernel
theorem e_Reader_readOne {l : Launch} {G : GT} {d : Nat} {P : MM → Prop} {m : MM} (x1 : Int)  (H : wfM m → inR x1 → ((m 3 4) ≠ 110 → (∃ (e6 : Nat) (P7 : MM → Prop), e6 < d ∧ CV l G Y_Reader_readSum e6 [.inr (.inr 2), .inl x1] m P7 ∧ (∀ m13, P7 m13 → wfM m13 → (∃ (e17 : Nat) (P18 : Int → MM → Prop), e17 < d ∧ CI l G Y_Reader_relation e17 [.inl (m13 3 4)] m13 P18 ∧ (∀ z23 m24, P18 z23 m24 → inR z23 → wfM m24 → (((m24 2 6) ≠ 0 → (P m24)) ∧ (¬ ((m24 2 6) ≠ 0) → ((z23 = (-1) → (P m24)) ∧ (¬ (z23 = (-1)) → (∃ (e38 : Nat) (P39 : MM → Prop), e38 < d ∧ CV l G Y_Tokens_next e38 [.inr (.inr 3)] m24 P39 ∧ (∀ m45, P39 m45 → wfM m45 → (∃ (e49 : Nat) (P50 : MM → Prop), e49 < d ∧ CV l G Y_Reader_readSum e49 [.inr (.inr 2), .inl x1] m45 P50 ∧ (∀ m56, P50 m56 → wfM m56 → (∃ b60 : Nat, m56 2 2 = b60 ∧ isB b60 ∧ (∃ (e64 : Nat) (P65 : MM → Prop), e64 < d ∧ CV l G Y_Formula_add e64 [.inr (.inr (b60 + 6)), .inl z23] m56 P65 ∧ (∀ m71, P65 m71 → wfM m71 → (P m71))))))))))))))))) ∧ (¬ ((m 3 4) ≠ 110) → (∃ (e75 : Nat) (P76 : MM → Prop), e75 < d ∧ CV l G Y_Reader_readNot e75 [.inr (.inr 2), .inl x1] m P76 ∧ (∀ m82, P76 m82 → wfM m82 → (P m82))))) : CV l G Y_Reader_readOne d [.inr (.inr 2), .inl x1] m P := by
  refine CV.of [(0, .inr (.inr 2)), (1, .inl x1)] k_Reader_readOne.1 (Nat.le_of_ble_eq_true rfl) rfl (Wp.wf (fun hw _ hl hs => ?_))
  have H0 := H hw (hl _ (List.mem_of_getElem? (i := 1) rfl))
  refine Wp.aload_n 0 0 d_Reader_readOne_0 rfl rfl ?_
  refine Wp.getP 3 d_Reader_readOne_1 fl_Reader_12 rfl rfl rfl ?_
  refine Wq.getI 4 rfl d_Reader_readOne_4 fl_Reader_52 rfl (Or.inl rfl) ?_
  refine Wp.bipush d_Reader_readOne_7 (by decide) (by decide) ?_
  obtain ⟨H2, H3⟩ := H0
  refine Wp.icmp_ne 18 d_Reader_readOne_9 (by decide) (fun c1 => ?_) (fun c1 => ?_)
  · have H4 := H2 c1
    refine Wp.aload_n 0 0 d_Reader_readOne_18 rfl rfl ?_
    refine Wp.iload_n 1 1 d_Reader_readOne_19 rfl rfl ?_
    obtain ⟨e6, P7, hd8, ho9, H10⟩ := H4
    refine Wq.VV (st := []) [.inl x1] d_Reader_readOne_20 k_Reader_readSum ml_Reader_158 rfl rfl rfl (fun h => by cases h) (Nat.le_of_ble_eq_true rfl) hd8 ho9 (fun m13 hp14 hw16 => ?_)
    have H11 := H10 m13 hp14 hw16
    refine Wp.aload_n 0 0 d_Reader_readOne_23 rfl rfl ?_
    refine Wp.getP 3 d_Reader_readOne_24 fl_Reader_12 rfl rfl rfl ?_
    refine Wq.getI 4 rfl d_Reader_readOne_27 fl_Reader_52 rfl (Or.inl rfl) ?_
    obtain ⟨e17, P18, hd19, ho20, H21⟩ := H11
    refine Wq.SI (st := []) [.inl (m13 3 4)] d_Reader_readOne_30 k_Reader_relation ml_Reader_161 rfl  (fun h => by cases h) (Nat.le_of_ble_eq_true rfl) hd19 ho20 (fun z23 m24 hp25 hz26 hw27 => ?_)
    have H22 := H21 z23 m24 hp25 hz26 hw27
    refine Wp.istore_n 2 [(0, .inr (.inr 2)), (1, .inl x1), (2, .inl z23)] d_Reader_readOne_33 rfl (by decide) rfl ?_
    refine Wp.aload_n 0 0 d_Reader_readOne_34 rfl rfl ?_
    refine Wq.getI 6 rfl d_Reader_readOne_35 fl_Reader_41 rfl (Or.inl rfl) ?_
    obtain ⟨H29, H30⟩ := H22
    refine Wp.if_ne 69 d_Reader_readOne_38 (by decide) (fun c28 => ?_) (fun c28 => ?_)
    · have H31 := H29 c28
      exact Wq.vret d_Reader_readOne_69 rfl H31
    · have H32 := H30 c28
      refine Wp.iload_n 2 2 d_Reader_readOne_41 rfl rfl ?_
      refine Wp.iconst d_Reader_readOne_42 (by decide) ?_
      obtain ⟨H34, H35⟩ := H32
      refine Wp.icmp_eq 69 d_Reader_readOne_43 (by decide) (fun c33 => ?_) (fun c33 => ?_)
      · have H36 := H34 c33
        exact Wq.vret d_Reader_readOne_69 rfl H36
      · have H37 := H35 c33
        refine Wp.aload_n 0 0 d_Reader_readOne_46 rfl rfl ?_
        refine Wp.getP 3 d_Reader_readOne_47 fl_Reader_12 rfl rfl rfl ?_
        obtain ⟨e38, P39, hd40, ho41, H42⟩ := H37
        refine Wq.VV (st := []) [] d_Reader_readOne_50 k_Tokens_next ml_Reader_76 rfl rfl rfl (fun h => by cases h) (Nat.le_of_ble_eq_true rfl) hd40 ho41 (fun m45 hp46 hw48 => ?_)
        have H43 := H42 m45 hp46 hw48
        refine Wp.aload_n 0 0 d_Reader_readOne_53 rfl rfl ?_
        refine Wp.iload_n 1 1 d_Reader_readOne_54 rfl rfl ?_
        obtain ⟨e49, P50, hd51, ho52, H53⟩ := H43
        refine Wq.VV (st := []) [.inl x1] d_Reader_readOne_55 k_Reader_readSum ml_Reader_158 rfl rfl rfl (fun h => by cases h) (Nat.le_of_ble_eq_true rfl) hd51 ho52 (fun m56 hp57 hw59 => ?_)
        have H54 := H53 m56 hp57 hw59
        refine Wp.aload_n 0 0 d_Reader_readOne_58 rfl rfl ?_
        obtain ⟨b60, hb61, hB62, H63⟩ := H54
        refine Wp.getR b60 d_Reader_readOne_59 fl_Reader_22 rfl (Or.inl rfl) rfl hb61 ?_
        refine Wp.getP (b60 + 6) d_Reader_readOne_62 fl_Reader_143 (isB_lay hB62) rfl (isB_p10 hB62) ?_
        refine Wp.iload_n 2 2 d_Reader_readOne_65 rfl rfl ?_
        obtain ⟨e64, P65, hd66, ho67, H68⟩ := H63
        refine Wq.VV (st := []) [.inl z23] d_Reader_readOne_66 k_Formula_add ml_Reader_149 rfl (isF_lay (isB_f hB62)) rfl (fun h => by cases h) (Nat.le_of_ble_eq_true rfl) hd66 ho67 (fun m71 hp72 hw74 => ?_)
        have H69 := H68 m71 hp72 hw74
        exact Wq.vret d_Reader_readOne_69 rfl H69
  · have H5 := H3 c1
    refine Wp.aload_n 0 0 d_Reader_readOne_12 rfl rfl ?_
    refine Wp.iload_n 1 1 d_Reader_readOne_13 rfl rfl ?_
    obtain ⟨e75, P76, hd77, ho78, H79⟩ := H5
    refine Wq.VV (st := []) [.inl x1] d_Reader_readOne_14 k_Reader_readNot ml_Reader_155 rfl rfl rfl (fun h => by cases h) (Nat.le_of_ble_eq_true rfl) hd77 ho78 (fun m82 hp83 hw85 => ?_)
    have H80 := H79 m82 hp83 hw85
    exact Wq.vret d_Reader_readOne_17 rfl H80
theorem d_Reader_readNot_0 : decode Y_Reader_readNot.2.1 0 = .ok (.iload_n 1, 1) := by decide +kernel
theorem d_Reader_readNot_1 : decode Y_Reader_readNot.2.1 1 = .ok (.bipush 6, 2) := by decide +kernel
theorem d_Reader_readNot_3 : decode Y_Reader_readNot.2.1 3 = .ok (.if_icmp .le 16, 3) := by decide +kernel
theorem d_Reader_readNot_6 : decode Y_Reader_readNot.2.1 6 = .ok (.aload_n 0, 1) := by decide +kernel
theorem d_Reader_readNot_7 : decode Y_Reader_readNot.2.1 7 = .ok (.iconst 2, 1) := by decide +kernel
theorem d_Reader_readNot_8 : decode Y_Reader_readNot.2.1 8 = .ok (.aload_n 0, 1) := by decide +kernel
theorem d_Reader_readNot_9 : decode Y_Reader_readNot.2.1 9 = .ok (.getfield 12, 3) := by decide +kernel
theorem d_Reader_readNot_12 : decode Y_Reader_readNot.2.1 12 = .ok (.getfield 66, 3) := by decide +kernel
theorem d_Reader_readNot_15 : decode Y_Reader_readNot.2.1 15 = .ok (.invokevirtual 62, 3) := by decide +kernel
theorem d_Reader_readNot_18 : decode Y_Reader_readNot.2.1 18 = .ok (.return_, 1) := by decide +kernel
theorem d_Reader_readNot_19 : decode Y_Reader_readNot.2.1 19 = .ok (.aload_n 0, 1) := by decide +kernel
theorem d_Reader_readNot_20 : decode Y_Reader_readNot.2.1 20 = .ok (.getfield 12, 3) := by decide +kernel
theorem d_Reader_readNot_23 : decode Y_Reader_readNot.2.1 23 = .ok (.invokevirtual 76, 3) := by decide +kernel
theorem d_Reader_readNot_26 : decode Y_Reader_readNot.2.1 26 = .ok (.aload_n 0, 1) := by decide +kernel
theorem d_Reader_readNot_27 : decode Y_Reader_readNot.2.1 27 = .ok (.iload_n 1, 1) := by decide +kernel
theorem d_Reader_readNot_28 : decode Y_Reader_readNot.2.1 28 = .ok (.iconst 1, 1) := by decide +kernel
theorem d_Reader_readNot_29 : decode Y_Reader_readNot.2.1 29 = .ok (.iadd, 1) := by decide +kernel
theorem d_Reader_readNot_30 : decode Y_Reader_readNot.2.1 30 = .ok (.invokevirtual 152, 3) := by decide +kernel
theorem d_Reader_readNot_33 : decode Y_Reader_readNot.2.1 33 = .ok (.aload_n 0, 1) := by decide +kernel
theorem d_Reader_readNot_34 : decode Y_Reader_readNot.2.1 34 = .ok (.getfield 22, 3) := by decide +kernel
theorem d_Reader_readNot_37 : decode Y_Reader_readNot.2.1 37 = .ok (.getfield 143, 3) := by decide +kernel
theorem d_Reader_readNot_40 : decode Y_Reader_readNot.2.1 40 = .ok (.sipush 10010, 3) := by decide +kernel
theorem d_Reader_readNot_43 : decode Y_Reader_readNot.2.1 43 = .ok (.invokevirtual 149, 3) := by decide +kernel
theorem d_Reader_readNot_46 : decode Y_Reader_readNot.2.1 46 = .ok (.return_, 1) := by decide +kernel
theorem e_Reader_readNot {l : Launch} {G : GT} {d : Nat} {P : MM → Prop} {m : MM} (x1 : Int)  (H : wfM m → inR x1 → (x1 ≤ 6 → (∃ (e6 : Nat) (P7 : MM → Prop), e6 < d ∧ CV l G Y_Tokens_next e6 [.inr (.inr 3)] m P7 ∧ (∀ m13, P7 m13 → wfM m13 → ((inR (x1 + 1)) ∧ (∃ (e19 : Nat) (P20 : MM → Prop), e19 < d ∧ CV l G Y_Reader_readOne e19 [.inr (.inr 2), .inl (x1 + 1)] m13 P20 ∧ (∀ m26, P20 m26 → wfM m26 → (∃ b30 : Nat, m26 2 2 = b30 ∧ isB b30 ∧ (∃ (e34 : Nat) (P35 : MM → Prop), e34 < d ∧ CV l G Y_Formula_add e34 [.inr (.inr (b30 + 6)), .inl 10010] m26 P35 ∧ (∀ m41, P35 m41 → wfM m41 → (P m41)))))))))) ∧ (¬ (x1 ≤ 6) → (∃ (e45 : Nat) (P46 : MM → Prop), e45 < d ∧ CV l G Y_Reader_tellFault e45 [.inr (.inr 2), .inl 2, .inl (m 3 5)] m P46 ∧ (∀ m52, P46 m52 → wfM m52 → (P m52))))) : CV l G Y_Reader_readNot d [.inr (.inr 2), .inl x1] m P := by
  refine CV.of [(0, .inr (.inr 2)), (1, .inl x1)] k_Reader_readNot.1 (Nat.le_of_ble_eq_true rfl) rfl (Wp.wf (fun hw _ hl hs => ?_))
  have H0 := H hw (hl _ (List.mem_of_getElem? (i := 1) rfl))
  refine Wp.iload_n 1 1 d_Reader_readNot_0 rfl rfl ?_
  refine Wp.bipush d_Reader_readNot_1 (by decide) (by decide) ?_
  obtain ⟨H2, H3⟩ := H0
  refine Wp.icmp_le 19 d_Reader_readNot_3 (by decide) (fun c1 => ?_) (fun c1 => ?_)
  · have H4 := H2 c1
    refine Wp.aload_n 0 0 d_Reader_readNot_19 rfl rfl ?_
    refine Wp.getP 3 d_Reader_readNot_20 fl_Reader_12 rfl rfl rfl ?_
    obtain ⟨e6, P7, hd8, ho9, H10⟩ := H4
    refine Wq.VV (st := []) [] d_Reader_readNot_23 k_Tokens_next ml_Reader_76 rfl rfl rfl (fun h => by cases h) (Nat.le_of_ble_eq_true rfl) hd8 ho9 (fun m13 hp14 hw16 => ?_)
    have H11 := H10 m13 hp14 hw16
    refine Wp.aload_n 0 0 d_Reader_readNot_26 rfl rfl ?_
    refine Wp.iload_n 1 1 d_Reader_readNot_27 rfl rfl ?_
    refine Wp.iconst d_Reader_readNot_28 (by decide) ?_
    obtain ⟨s17, H18⟩ := H11
    refine Wp.iadd d_Reader_readNot_29 s17 ?_
    obtain ⟨e19, P20, hd21, ho22, H23⟩ := H18
    refine Wq.VV (st := []) [.inl (x1 + 1)] d_Reader_readNot_30 k_Reader_readOne ml_Reader_152 rfl rfl rfl (fun h => by cases h) (Nat.le_of_ble_eq_true rfl) hd21 ho22 (fun m26 hp27 hw29 => ?_)
    have H24 := H23 m26 hp27 hw29
    refine Wp.aload_n 0 0 d_Reader_readNot_33 rfl rfl ?_
    obtain ⟨b30, hb31, hB32, H33⟩ := H24
    refine Wp.getR b30 d_Reader_readNot_34 fl_Reader_22 rfl (Or.inl rfl) rfl hb31 ?_
    refine Wp.getP (b30 + 6) d_Reader_readNot_37 fl_Reader_143 (isB_lay hB32) rfl (isB_p10 hB32) ?_
    refine Wp.sipush d_Reader_readNot_40 (by decide) (by decide) ?_
    obtain ⟨e34, P35, hd36, ho37, H38⟩ := H33
    refine Wq.VV (st := []) [.inl 10010] d_Reader_readNot_43 k_Formula_add ml_Reader_149 rfl (isF_lay (isB_f hB32)) rfl (fun h => by cases h) (Nat.le_of_ble_eq_true rfl) hd36 ho37 (fun m41 hp42 hw44 => ?_)
    have H39 := H38 m41 hp42 hw44
    exact Wq.vret d_Reader_readNot_46 rfl H39
  · have H5 := H3 c1
    refine Wp.aload_n 0 0 d_Reader_readNot_6 rfl rfl ?_
    refine Wp.iconst d_Reader_readNot_7 (by decide) ?_
    refine Wp.aload_n 0 0 d_Reader_readNot_8 rfl rfl ?_
    refine Wp.getP 3 d_Reader_readNot_9 fl_Reader_12 rfl rfl rfl ?_
    refine Wq.getI 5 rfl d_Reader_readNot_12 fl_Reader_66 rfl (Or.inl rfl) ?_
    obtain ⟨e45, P46, hd47, ho48, H49⟩ := H5
    refine Wq.VV (st := []) [.inl 2, .inl (m 3 5)] d_Reader_readNot_15 k_Reader_tellFault ml_Reader_62 rfl rfl rfl (fun h => by cases h) (Nat.le_of_ble_eq_true rfl) hd47 ho48 (fun m52 hp53 hw55 => ?_)
    have H50 := H49 m52 hp53 hw55
    exact Wq.vret d_Reader_readNot_18 rfl H50
theorem d_Reader_readSum_0 : decode Y_Reader_readSum.2.1 0 = .ok (.aload_n 0, 1) := by decide +kernel
theorem d_Reader_readSum_1 : decode Y_Reader_readSum.2.1 1 = .ok (.iload_n 1, 1) := by decide +kernel
theorem d_Reader_readSum_2 : decode Y_Reader_readSum.2.1 2 = .ok (.invokevirtual 165, 3) := by decide +kernel
theorem d_Reader_readSum_5 : decode Y_Reader_readSum.2.1 5 = .ok (.iconst 0, 1) := by decide +kernel
theorem d_Reader_readSum_6 : decode Y_Reader_readSum.2.1 6 = .ok (.istore_n 2, 1) := by decide +kernel
theorem d_Reader_readSum_7 : decode Y_Reader_readSum.2.1 7 = .ok (.iload_n 2, 1) := by decide +kernel
theorem d_Reader_readSum_8 : decode Y_Reader_readSum.2.1 8 = .ok (.bipush 30, 2) := by decide +kernel
theorem d_Reader_readSum_10 : decode Y_Reader_readSum.2.1 10 = .ok (.if_icmp .ge 85, 3) := by decide +kernel
theorem d_Reader_readSum_13 : decode Y_Reader_readSum.2.1 13 = .ok (.aload_n 0, 1) := by decide +kernel
theorem d_Reader_readSum_14 : decode Y_Reader_readSum.2.1 14 = .ok (.getfield 41, 3) := by decide +kernel
theorem d_Reader_readSum_17 : decode Y_Reader_readSum.2.1 17 = .ok (.ifCond .ne 78, 3) := by decide +kernel
theorem d_Reader_readSum_20 : decode Y_Reader_readSum.2.1 20 = .ok (.aload_n 0, 1) := by decide +kernel
theorem d_Reader_readSum_21 : decode Y_Reader_readSum.2.1 21 = .ok (.getfield 12, 3) := by decide +kernel
theorem d_Reader_readSum_24 : decode Y_Reader_readSum.2.1 24 = .ok (.getfield 52, 3) := by decide +kernel
theorem d_Reader_readSum_27 : decode Y_Reader_readSum.2.1 27 = .ok (.bipush 43, 2) := by decide +kernel
theorem d_Reader_readSum_29 : decode Y_Reader_readSum.2.1 29 = .ok (.if_icmp .eq 15, 3) := by decide +kernel
theorem d_Reader_readSum_32 : decode Y_Reader_readSum.2.1 32 = .ok (.aload_n 0, 1) := by decide +kernel
theorem d_Reader_readSum_33 : decode Y_Reader_readSum.2.1 33 = .ok (.getfield 12, 3) := by decide +kernel
theorem d_Reader_readSum_36 : decode Y_Reader_readSum.2.1 36 = .ok (.getfield 52, 3) := by decide +kernel
theorem d_Reader_readSum_39 : decode Y_Reader_readSum.2.1 39 = .ok (.bipush 45, 2) := by decide +kernel
theorem d_Reader_readSum_41 : decode Y_Reader_readSum.2.1 41 = .ok (.if_icmp .ne 54, 3) := by decide +kernel
theorem d_Reader_readSum_44 : decode Y_Reader_readSum.2.1 44 = .ok (.aload_n 0, 1) := by decide +kernel
theorem d_Reader_readSum_45 : decode Y_Reader_readSum.2.1 45 = .ok (.getfield 12, 3) := by decide +kernel
theorem d_Reader_readSum_48 : decode Y_Reader_readSum.2.1 48 = .ok (.getfield 52, 3) := by decide +kernel
theorem d_Reader_readSum_51 : decode Y_Reader_readSum.2.1 51 = .ok (.bipush 43, 2) := by decide +kernel
theorem d_Reader_readSum_53 : decode Y_Reader_readSum.2.1 53 = .ok (.if_icmp .ne 9, 3) := by decide +kernel
theorem d_Reader_readSum_56 : decode Y_Reader_readSum.2.1 56 = .ok (.sipush 10016, 3) := by decide +kernel
theorem d_Reader_readSum_59 : decode Y_Reader_readSum.2.1 59 = .ok (.goto 6, 3) := by decide +kernel
theorem d_Reader_readSum_62 : decode Y_Reader_readSum.2.1 62 = .ok (.sipush 10017, 3) := by decide +kernel
theorem d_Reader_readSum_65 : decode Y_Reader_readSum.2.1 65 = .ok (.istore_n 3, 1) := by decide +kernel
theorem d_Reader_readSum_66 : decode Y_Reader_readSum.2.1 66 = .ok (.aload_n 0, 1) := by decide +kernel
theorem d_Reader_readSum_67 : decode Y_Reader_readSum.2.1 67 = .ok (.getfield 12, 3) := by decide +kernel
theorem d_Reader_readSum_70 : decode Y_Reader_readSum.2.1 70 = .ok (.invokevirtual 76, 3) := by decide +kernel
theorem d_Reader_readSum_73 : decode Y_Reader_readSum.2.1 73 = .ok (.aload_n 0, 1) := by decide +kernel
theorem d_Reader_readSum_74 : decode Y_Reader_readSum.2.1 74 = .ok (.iload_n 1, 1) := by decide +kernel
theorem d_Reader_readSum_75 : decode Y_Reader_readSum.2.1 75 = .ok (.invokevirtual 165, 3) := by decide +kernel
theorem d_Reader_readSum_78 : decode Y_Reader_readSum.2.1 78 = .ok (.aload_n 0, 1) := by decide +kernel
theorem d_Reader_readSum_79 : decode Y_Reader_readSum.2.1 79 = .ok (.getfield 22, 3) := by decide +kernel
theorem d_Reader_readSum_82 : decode Y_Reader_readSum.2.1 82 = .ok (.getfield 143, 3) := by decide +kernel
theorem d_Reader_readSum_85 : decode Y_Reader_readSum.2.1 85 = .ok (.iload_n 3, 1) := by decide +kernel
theorem d_Reader_readSum_86 : decode Y_Reader_readSum.2.1 86 = .ok (.invokevirtual 149, 3) := by decide +kernel
theorem d_Reader_readSum_89 : decode Y_Reader_readSum.2.1 89 = .ok (.iinc 2 1, 3) := by decide +kernel
theorem d_Reader_readSum_92 : decode Y_Reader_readSum.2.1 92 = .ok (.goto (-85), 3) := by decide +kernel
theorem d_Reader_readSum_95 : decode Y_Reader_readSum.2.1 95 = .ok (.return_, 1) := by decide +kernel
theorem e_Reader_readSum {l : Launch} {G : GT} {d : Nat} {P : MM → Prop} {m : MM} (x1 : Int)  (H : wfM m → inR x1 → ∃ (e1 : Nat) (P2 : MM → Prop), e1 < d ∧ CV l G Y_Reader_readTerm e1 [.inr (.inr 2), .inl x1] m P2 ∧ (∀ m8, P2 m8 → wfM m8 → (Wq l G false Y_Reader_readSum d (QV P) 7 [(0, .inr (.inr 2)), (1, .inl x1), (2, .inl 0)] [] m8))) : CV l G Y_Reader_readSum d [.inr (.inr 2), .inl x1] m P := by
  refine CV.of [(0, .inr (.inr 2)), (1, .inl x1)] k_Reader_readSum.1 (Nat.le_of_ble_eq_true rfl) rfl (Wp.wf (fun hw _ hl hs => ?_))
  have H0 := H hw (hl _ (List.mem_of_getElem? (i := 1) rfl))
  refine Wp.aload_n 0 0 d_Reader_readSum_0 rfl rfl ?_
  refine Wp.iload_n 1 1 d_Reader_readSum_1 rfl rfl ?_
  obtain ⟨e1, P2, hd3, ho4, H5⟩ := H0
  refine Wq.VV (st := []) [.inl x1] d_Reader_readSum_2 k_Reader_readTerm ml_Reader_165 rfl rfl rfl (fun h => by cases h) (Nat.le_of_ble_eq_true rfl) hd3 ho4 (fun m8 hp9 hw11 => ?_)
  have H6 := H5 m8 hp9 hw11
  refine Wp.iconst d_Reader_readSum_5 (by decide) ?_
  refine Wp.istore_n 2 [(0, .inr (.inr 2)), (1, .inl x1), (2, .inl 0)] d_Reader_readSum_6 rfl (by decide) rfl ?_
  exact H6
theorem s_Reader_readSum_7 {l : Launch} {G : GT} {d : Nat} {P : MM → Prop} {m : MM} (x1 : Int) (x2 : Int)  (H : wfM m → inR x1 → inR x2 → (x2 ≥ 30 → (P m)) ∧ (¬ (x2 ≥ 30) → (((m 2 6) ≠ 0 → (P m)) ∧ (¬ ((m 2 6) ≠ 0) → (((m 3 4) = 43 → (((m 3 4) ≠ 43 → (∃ (e21 : Nat) (P22 : MM → Prop), e21 < d ∧ CV l G Y_Tokens_next e21 [.inr (.inr 3)] m P22 ∧ (∀ m28, P22 m28 → wfM m28 → (∃ (e32 : Nat) (P33 : MM → Prop), e32 < d ∧ CV l G Y_Reader_readTerm e32 [.inr (.inr 2), .inl x1] m28 P33 ∧ (∀ m39, P33 m39 → wfM m39 → (∃ b43 : Nat, m39 2 2 = b43 ∧ isB b43 ∧ (∃ (e47 : Nat) (P48 : MM → Prop), e47 < d ∧ CV l G Y_Formula_add e47 [.inr (.inr (b43 + 6)), .inl 10017] m39 P48 ∧ (∀ m54, P48 m54 → wfM m54 → ((inR (x2 + 1)) ∧ (Wq l G false Y_Reader_readSum d (QV P) 7 [(0, .inr (.inr 2)), (1, .inl x1), (2, .inl (x2 + 1))] [] m54)))))))))) ∧ (¬ ((m 3 4) ≠ 43) → (∃ (e60 : Nat) (P61 : MM → Prop), e60 < d ∧ CV l G Y_Tokens_next e60 [.inr (.inr 3)] m P61 ∧ (∀ m67, P61 m67 → wfM m67 → (∃ (e71 : Nat) (P72 : MM → Prop), e71 < d ∧ CV l G Y_Reader_readTerm e71 [.inr (.inr 2), .inl x1] m67 P72 ∧ (∀ m78, P72 m78 → wfM m78 → (∃ b82 : Nat, m78 2 2 = b82 ∧ isB b82 ∧ (∃ (e86 : Nat) (P87 : MM → Prop), e86 < d ∧ CV l G Y_Formula_add e86 [.inr (.inr (b82 + 6)), .inl 10016] m78 P87 ∧ (∀ m93, P87 m93 → wfM m93 → ((inR (x2 + 1)) ∧ (Wq l G false Y_Reader_readSum d (QV P) 7 [(0, .inr (.inr 2)), (1, .inl x1), (2, .inl (x2 + 1))] [] m93)))))))))))) ∧ (¬ ((m 3 4) = 43) → (((m 3 4) ≠ 45 → (P m)) ∧ (¬ ((m 3 4) ≠ 45) → (((m 3 4) ≠ 43 → (∃ (e109 : Nat) (P110 : MM → Prop), e109 < d ∧ CV l G Y_Tokens_next e109 [.inr (.inr 3)] m P110 ∧ (∀ m116, P110 m116 → wfM m116 → (∃ (e120 : Nat) (P121 : MM → Prop), e120 < d ∧ CV l G Y_Reader_readTerm e120 [.inr (.inr 2), .inl x1] m116 P121 ∧ (∀ m127, P121 m127 → wfM m127 → (∃ b131 : Nat, m127 2 2 = b131 ∧ isB b131 ∧ (∃ (e135 : Nat) (P136 : MM → Prop), e135 < d ∧ CV l G Y_Formula_add e135 [.inr (.inr (b131 + 6)), .inl 10017] m127 P136 ∧ (∀ m142, P136 m142 → wfM m142 → ((inR (x2 + 1)) ∧ (Wq l G false Y_Reader_readSum d (QV P) 7 [(0, .inr (.inr 2)), (1, .inl x1), (2, .inl (x2 + 1))] [] m142)))))))))) ∧ (¬ ((m 3 4) ≠ 43) → (∃ (e148 : Nat) (P149 : MM → Prop), e148 < d ∧ CV l G Y_Tokens_next e148 [.inr (.inr 3)] m P149 ∧ (∀ m155, P149 m155 → wfM m155 → (∃ (e159 : Nat) (P160 : MM → Prop), e159 < d ∧ CV l G Y_Reader_readTerm e159 [.inr (.inr 2), .inl x1] m155 P160 ∧ (∀ m166, P160 m166 → wfM m166 → (∃ b170 : Nat, m166 2 2 = b170 ∧ isB b170 ∧ (∃ (e174 : Nat) (P175 : MM → Prop), e174 < d ∧ CV l G Y_Formula_add e174 [.inr (.inr (b170 + 6)), .inl 10016] m166 P175 ∧ (∀ m181, P175 m181 → wfM m181 → ((inR (x2 + 1)) ∧ (Wq l G false Y_Reader_readSum d (QV P) 7 [(0, .inr (.inr 2)), (1, .inl x1), (2, .inl (x2 + 1))] [] m181))))))))))))))))))) : Wq l G false Y_Reader_readSum d (QV P) 7 [(0, .inr (.inr 2)), (1, .inl x1), (2, .inl x2)] [] m := by
  refine Wp.wf (fun hw _ hl hs => ?_)
  have H0 := H hw (hl _ (List.mem_of_getElem? (i := 1) rfl)) (hl _ (List.mem_of_getElem? (i := 2) rfl))
  refine Wp.iload_n 2 2 d_Reader_readSum_7 rfl rfl ?_
  refine Wp.bipush d_Reader_readSum_8 (by decide) (by decide) ?_
  obtain ⟨H2, H3⟩ := H0
  refine Wp.icmp_ge 95 d_Reader_readSum_10 (by decide) (fun c1 => ?_) (fun c1 => ?_)
  · have H4 := H2 c1
    exact Wq.vret d_Reader_readSum_95 rfl H4
  · have H5 := H3 c1
    refine Wp.aload_n 0 0 d_Reader_readSum_13 rfl rfl ?_
    refine Wq.getI 6 rfl d_Reader_readSum_14 fl_Reader_41 rfl (Or.inl rfl) ?_
    obtain ⟨H7, H8⟩ := H5
    refine Wp.if_ne 95 d_Reader_readSum_17 (by decide) (fun c6 => ?_) (fun c6 => ?_)
    · have H9 := H7 c6
      exact Wq.vret d_Reader_readSum_95 rfl H9
    · have H10 := H8 c6
      refine Wp.aload_n 0 0 d_Reader_readSum_20 rfl rfl ?_
      refine Wp.getP 3 d_Reader_readSum_21 fl_Reader_12 rfl rfl rfl ?_
      refine Wq.getI 4 rfl d_Reader_readSum_24 fl_Reader_52 rfl (Or.inl rfl) ?_
      refine Wp.bipush d_Reader_readSum_27 (by decide) (by decide) ?_
      obtain ⟨H12, H13⟩ := H10
      refine Wp.icmp_eq 44 d_Reader_readSum_29 (by decide) (fun c11 => ?_) (fun c11 => ?_)
      · have H14 := H12 c11
        refine Wp.aload_n 0 0 d_Reader_readSum_44 rfl rfl ?_
        refine Wp.getP 3 d_Reader_readSum_45 fl_Reader_12 rfl rfl rfl ?_
        refine Wq.getI 4 rfl d_Reader_readSum_48 fl_Reader_52 rfl (Or.inl rfl) ?_
        refine Wp.bipush d_Reader_readSum_51 (by decide) (by decide) ?_
        obtain ⟨H17, H18⟩ := H14
        refine Wp.icmp_ne 62 d_Reader_readSum_53 (by decide) (fun c16 => ?_) (fun c16 => ?_)
        · have H19 := H17 c16
          refine Wp.sipush d_Reader_readSum_62 (by decide) (by decide) ?_
          refine Wp.istore_n 3 [(0, .inr (.inr 2)), (1, .inl x1), (2, .inl x2), (3, .inl 10017)] d_Reader_readSum_65 rfl (by decide) rfl ?_
          refine Wp.aload_n 0 0 d_Reader_readSum_66 rfl rfl ?_
          refine Wp.getP 3 d_Reader_readSum_67 fl_Reader_12 rfl rfl rfl ?_
          obtain ⟨e21, P22, hd23, ho24, H25⟩ := H19
          refine Wq.VV (st := []) [] d_Reader_readSum_70 k_Tokens_next ml_Reader_76 rfl rfl rfl (fun h => by cases h) (Nat.le_of_ble_eq_true rfl) hd23 ho24 (fun m28 hp29 hw31 => ?_)
          have H26 := H25 m28 hp29 hw31
          refine Wp.aload_n 0 0 d_Reader_readSum_73 rfl rfl ?_
          refine Wp.iload_n 1 1 d_Reader_readSum_74 rfl rfl ?_
          obtain ⟨e32, P33, hd34, ho35, H36⟩ := H26
          refine Wq.VV (st := []) [.inl x1] d_Reader_readSum_75 k_Reader_readTerm ml_Reader_165 rfl rfl rfl (fun h => by cases h) (Nat.le_of_ble_eq_true rfl) hd34 ho35 (fun m39 hp40 hw42 => ?_)
          have H37 := H36 m39 hp40 hw42
          refine Wp.aload_n 0 0 d_Reader_readSum_78 rfl rfl ?_
          obtain ⟨b43, hb44, hB45, H46⟩ := H37
          refine Wp.getR b43 d_Reader_readSum_79 fl_Reader_22 rfl (Or.inl rfl) rfl hb44 ?_
          refine Wp.getP (b43 + 6) d_Reader_readSum_82 fl_Reader_143 (isB_lay hB45) rfl (isB_p10 hB45) ?_
          refine Wp.iload_n 3 3 d_Reader_readSum_85 rfl rfl ?_
          obtain ⟨e47, P48, hd49, ho50, H51⟩ := H46
          refine Wq.VV (st := []) [.inl 10017] d_Reader_readSum_86 k_Formula_add ml_Reader_149 rfl (isF_lay (isB_f hB45)) rfl (fun h => by cases h) (Nat.le_of_ble_eq_true rfl) hd49 ho50 (fun m54 hp55 hw57 => ?_)
          have H52 := H51 m54 hp55 hw57
          obtain ⟨s58, H59⟩ := H52
          refine Wp.iinc 2 2 [(0, .inr (.inr 2)), (1, .inl x1), (2, .inl (x2 + 1)), (3, .inl 10017)] d_Reader_readSum_89 rfl s58 (by decide) rfl ?_
          refine Wp.goto 7 d_Reader_readSum_92 (by decide) ?_
          refine Wp.pick [0, 1, 2] [(0, .inr (.inr 2)), (1, .inl x1), (2, .inl (x2 + 1))] rfl ?_
          exact H59
        · have H20 := H18 c16
          refine Wp.sipush d_Reader_readSum_56 (by decide) (by decide) ?_
          refine Wp.goto 65 d_Reader_readSum_59 (by decide) ?_
          refine Wp.istore_n 3 [(0, .inr (.inr 2)), (1, .inl x1), (2, .inl x2), (3, .inl 10016)] d_Reader_readSum_65 rfl (by decide) rfl ?_
          refine Wp.aload_n 0 0 d_Reader_readSum_66 rfl rfl ?_
          refine Wp.getP 3 d_Reader_readSum_67 fl_Reader_12 rfl rfl rfl ?_
          obtain ⟨e60, P61, hd62, ho63, H64⟩ := H20
          refine Wq.VV (st := []) [] d_Reader_readSum_70 k_Tokens_next ml_Reader_76 rfl rfl rfl (fun h => by cases h) (Nat.le_of_ble_eq_true rfl) hd62 ho63 (fun m67 hp68 hw70 => ?_)
          have H65 := H64 m67 hp68 hw70
          refine Wp.aload_n 0 0 d_Reader_readSum_73 rfl rfl ?_
          refine Wp.iload_n 1 1 d_Reader_readSum_74 rfl rfl ?_
          obtain ⟨e71, P72, hd73, ho74, H75⟩ := H65
          refine Wq.VV (st := []) [.inl x1] d_Reader_readSum_75 k_Reader_readTerm ml_Reader_165 rfl rfl rfl (fun h => by cases h) (Nat.le_of_ble_eq_true rfl) hd73 ho74 (fun m78 hp79 hw81 => ?_)
          have H76 := H75 m78 hp79 hw81
          refine Wp.aload_n 0 0 d_Reader_readSum_78 rfl rfl ?_
          obtain ⟨b82, hb83, hB84, H85⟩ := H76
          refine Wp.getR b82 d_Reader_readSum_79 fl_Reader_22 rfl (Or.inl rfl) rfl hb83 ?_
          refine Wp.getP (b82 + 6) d_Reader_readSum_82 fl_Reader_143 (isB_lay hB84) rfl (isB_p10 hB84) ?_
          refine Wp.iload_n 3 3 d_Reader_readSum_85 rfl rfl ?_
          obtain ⟨e86, P87, hd88, ho89, H90⟩ := H85
          refine Wq.VV (st := []) [.inl 10016] d_Reader_readSum_86 k_Formula_add ml_Reader_149 rfl (isF_lay (isB_f hB84)) rfl (fun h => by cases h) (Nat.le_of_ble_eq_true rfl) hd88 ho89 (fun m93 hp94 hw96 => ?_)
          have H91 := H90 m93 hp94 hw96
          obtain ⟨s97, H98⟩ := H91
          refine Wp.iinc 2 2 [(0, .inr (.inr 2)), (1, .inl x1), (2, .inl (x2 + 1)), (3, .inl 10016)] d_Reader_readSum_89 rfl s97 (by decide) rfl ?_
          refine Wp.goto 7 d_Reader_readSum_92 (by decide) ?_
          refine Wp.pick [0, 1, 2] [(0, .inr (.inr 2)), (1, .inl x1), (2, .inl (x2 + 1))] rfl ?_
          exact H98
      · have H15 := H13 c11
        refine Wp.aload_n 0 0 d_Reader_readSum_32 rfl rfl ?_
        refine Wp.getP 3 d_Reader_readSum_33 fl_Reader_12 rfl rfl rfl ?_
        refine Wq.getI 4 rfl d_Reader_readSum_36 fl_Reader_52 rfl (Or.inl rfl) ?_
        refine Wp.bipush d_Reader_readSum_39 (by decide) (by decide) ?_
        obtain ⟨H100, H101⟩ := H15
        refine Wp.icmp_ne 95 d_Reader_readSum_41 (by decide) (fun c99 => ?_) (fun c99 => ?_)
        · have H102 := H100 c99
          exact Wq.vret d_Reader_readSum_95 rfl H102
        · have H103 := H101 c99
          refine Wp.aload_n 0 0 d_Reader_readSum_44 rfl rfl ?_
          refine Wp.getP 3 d_Reader_readSum_45 fl_Reader_12 rfl rfl rfl ?_
          refine Wq.getI 4 rfl d_Reader_readSum_48 fl_Reader_52 rfl (Or.inl rfl) ?_
          refine Wp.bipush d_Reader_readSum_51 (by decide) (by decide) ?_
          obtain ⟨H105, H106⟩ := H103
          refine Wp.icmp_ne 62 d_Reader_readSum_53 (by decide) (fun c104 => ?_) (fun c104 => ?_)
          · have H107 := H105 c104
            refine Wp.sipush d_Reader_readSum_62 (by decide) (by decide) ?_
            refine Wp.istore_n 3 [(0, .inr (.inr 2)), (1, .inl x1), (2, .inl x2), (3, .inl 10017)] d_Reader_readSum_65 rfl (by decide) rfl ?_
            refine Wp.aload_n 0 0 d_Reader_readSum_66 rfl rfl ?_
            refine Wp.getP 3 d_Reader_readSum_67 fl_Reader_12 rfl rfl rfl ?_
            obtain ⟨e109, P110, hd111, ho112, H113⟩ := H107
            refine Wq.VV (st := []) [] d_Reader_readSum_70 k_Tokens_next ml_Reader_76 rfl rfl rfl (fun h => by cases h) (Nat.le_of_ble_eq_true rfl) hd111 ho112 (fun m116 hp117 hw119 => ?_)
            have H114 := H113 m116 hp117 hw119
            refine Wp.aload_n 0 0 d_Reader_readSum_73 rfl rfl ?_
            refine Wp.iload_n 1 1 d_Reader_readSum_74 rfl rfl ?_
            obtain ⟨e120, P121, hd122, ho123, H124⟩ := H114
            refine Wq.VV (st := []) [.inl x1] d_Reader_readSum_75 k_Reader_readTerm ml_Reader_165 rfl rfl rfl (fun h => by cases h) (Nat.le_of_ble_eq_true rfl) hd122 ho123 (fun m127 hp128 hw130 => ?_)
            have H125 := H124 m127 hp128 hw130
            refine Wp.aload_n 0 0 d_Reader_readSum_78 rfl rfl ?_
            obtain ⟨b131, hb132, hB133, H134⟩ := H125
            refine Wp.getR b131 d_Reader_readSum_79 fl_Reader_22 rfl (Or.inl rfl) rfl hb132 ?_
            refine Wp.getP (b131 + 6) d_Reader_readSum_82 fl_Reader_143 (isB_lay hB133) rfl (isB_p10 hB133) ?_
            refine Wp.iload_n 3 3 d_Reader_readSum_85 rfl rfl ?_
            obtain ⟨e135, P136, hd137, ho138, H139⟩ := H134
            refine Wq.VV (st := []) [.inl 10017] d_Reader_readSum_86 k_Formula_add ml_Reader_149 rfl (isF_lay (isB_f hB133)) rfl (fun h => by cases h) (Nat.le_of_ble_eq_true rfl) hd137 ho138 (fun m142 hp143 hw145 => ?_)
            have H140 := H139 m142 hp143 hw145
            obtain ⟨s146, H147⟩ := H140
            refine Wp.iinc 2 2 [(0, .inr (.inr 2)), (1, .inl x1), (2, .inl (x2 + 1)), (3, .inl 10017)] d_Reader_readSum_89 rfl s146 (by decide) rfl ?_
            refine Wp.goto 7 d_Reader_readSum_92 (by decide) ?_
            refine Wp.pick [0, 1, 2] [(0, .inr (.inr 2)), (1, .inl x1), (2, .inl (x2 + 1))] rfl ?_
            exact H147
          · have H108 := H106 c104
            refine Wp.sipush d_Reader_readSum_56 (by decide) (by decide) ?_
            refine Wp.goto 65 d_Reader_readSum_59 (by decide) ?_
            refine Wp.istore_n 3 [(0, .inr (.inr 2)), (1, .inl x1), (2, .inl x2), (3, .inl 10016)] d_Reader_readSum_65 rfl (by decide) rfl ?_
            refine Wp.aload_n 0 0 d_Reader_readSum_66 rfl rfl ?_
            refine Wp.getP 3 d_Reader_readSum_67 fl_Reader_12 rfl rfl rfl ?_
            obtain ⟨e148, P149, hd150, ho151, H152⟩ := H108
            refine Wq.VV (st := []) [] d_Reader_readSum_70 k_Tokens_next ml_Reader_76 rfl rfl rfl (fun h => by cases h) (Nat.le_of_ble_eq_true rfl) hd150 ho151 (fun m155 hp156 hw158 => ?_)
            have H153 := H152 m155 hp156 hw158
            refine Wp.aload_n 0 0 d_Reader_readSum_73 rfl rfl ?_
            refine Wp.iload_n 1 1 d_Reader_readSum_74 rfl rfl ?_
            obtain ⟨e159, P160, hd161, ho162, H163⟩ := H153
            refine Wq.VV (st := []) [.inl x1] d_Reader_readSum_75 k_Reader_readTerm ml_Reader_165 rfl rfl rfl (fun h => by cases h) (Nat.le_of_ble_eq_true rfl) hd161 ho162 (fun m166 hp167 hw169 => ?_)
            have H164 := H163 m166 hp167 hw169
            refine Wp.aload_n 0 0 d_Reader_readSum_78 rfl rfl ?_
            obtain ⟨b170, hb171, hB172, H173⟩ := H164
            refine Wp.getR b170 d_Reader_readSum_79 fl_Reader_22 rfl (Or.inl rfl) rfl hb171 ?_
            refine Wp.getP (b170 + 6) d_Reader_readSum_82 fl_Reader_143 (isB_lay hB172) rfl (isB_p10 hB172) ?_
            refine Wp.iload_n 3 3 d_Reader_readSum_85 rfl rfl ?_
            obtain ⟨e174, P175, hd176, ho177, H178⟩ := H173
            refine Wq.VV (st := []) [.inl 10016] d_Reader_readSum_86 k_Formula_add ml_Reader_149 rfl (isF_lay (isB_f hB172)) rfl (fun h => by cases h) (Nat.le_of_ble_eq_true rfl) hd176 ho177 (fun m181 hp182 hw184 => ?_)
            have H179 := H178 m181 hp182 hw184
            obtain ⟨s185, H186⟩ := H179
            refine Wp.iinc 2 2 [(0, .inr (.inr 2)), (1, .inl x1), (2, .inl (x2 + 1)), (3, .inl 10016)] d_Reader_readSum_89 rfl s185 (by decide) rfl ?_
            refine Wp.goto 7 d_Reader_readSum_92 (by decide) ?_
            refine Wp.pick [0, 1, 2] [(0, .inr (.inr 2)), (1, .inl x1), (2, .inl (x2 + 1))] rfl ?_
            exact H186
theorem d_Reader_readTerm_0 : decode Y_Reader_readTerm.2.1 0 = .ok (.aload_n 0, 1) := by decide +kernel
theorem d_Reader_readTerm_1 : decode Y_Reader_readTerm.2.1 1 = .ok (.iload_n 1, 1) := by decide +kernel
theorem d_Reader_readTerm_2 : decode Y_Reader_readTerm.2.1 2 = .ok (.invokevirtual 168, 3) := by decide +kernel
theorem d_Reader_readTerm_5 : decode Y_Reader_readTerm.2.1 5 = .ok (.aload_n 0, 1) := by decide +kernel
theorem d_Reader_readTerm_6 : decode Y_Reader_readTerm.2.1 6 = .ok (.getfield 12, 3) := by decide +kernel
theorem d_Reader_readTerm_9 : decode Y_Reader_readTerm.2.1 9 = .ok (.getfield 52, 3) := by decide +kernel
theorem d_Reader_readTerm_12 : decode Y_Reader_readTerm.2.1 12 = .ok (.invokestatic 171, 3) := by decide +kernel
theorem d_Reader_readTerm_15 : decode Y_Reader_readTerm.2.1 15 = .ok (.istore_n 2, 1) := by decide +kernel
theorem d_Reader_readTerm_16 : decode Y_Reader_readTerm.2.1 16 = .ok (.iconst 0, 1) := by decide +kernel
theorem d_Reader_readTerm_17 : decode Y_Reader_readTerm.2.1 17 = .ok (.istore_n 3, 1) := by decide +kernel
theorem d_Reader_readTerm_18 : decode Y_Reader_readTerm.2.1 18 = .ok (.iload_n 3, 1) := by decide +kernel
theorem d_Reader_readTerm_19 : decode Y_Reader_readTerm.2.1 19 = .ok (.bipush 30, 2) := by decide +kernel
theorem d_Reader_readTerm_21 : decode Y_Reader_readTerm.2.1 21 = .ok (.if_icmp .ge 55, 3) := by decide +kernel
theorem d_Reader_readTerm_24 : decode Y_Reader_readTerm.2.1 24 = .ok (.aload_n 0, 1) := by decide +kernel
theorem d_Reader_readTerm_25 : decode Y_Reader_readTerm.2.1 25 = .ok (.getfield 41, 3) := by decide +kernel
theorem d_Reader_readTerm_28 : decode Y_Reader_readTerm.2.1 28 = .ok (.ifCond .ne 48, 3) := by decide +kernel
theorem d_Reader_readTerm_31 : decode Y_Reader_readTerm.2.1 31 = .ok (.iload_n 2, 1) := by decide +kernel
theorem d_Reader_readTerm_32 : decode Y_Reader_readTerm.2.1 32 = .ok (.iconst (-1), 1) := by decide +kernel
theorem d_Reader_readTerm_33 : decode Y_Reader_readTerm.2.1 33 = .ok (.if_icmp .eq 43, 3) := by decide +kernel
theorem d_Reader_readTerm_36 : decode Y_Reader_readTerm.2.1 36 = .ok (.aload_n 0, 1) := by decide +kernel
theorem d_Reader_readTerm_37 : decode Y_Reader_readTerm.2.1 37 = .ok (.getfield 12, 3) := by decide +kernel
theorem d_Reader_readTerm_40 : decode Y_Reader_readTerm.2.1 40 = .ok (.invokevirtual 76, 3) := by decide +kernel
theorem d_Reader_readTerm_43 : decode Y_Reader_readTerm.2.1 43 = .ok (.aload_n 0, 1) := by decide +kernel
theorem d_Reader_readTerm_44 : decode Y_Reader_readTerm.2.1 44 = .ok (.iload_n 1, 1) := by decide +kernel
theorem d_Reader_readTerm_45 : decode Y_Reader_readTerm.2.1 45 = .ok (.invokevirtual 168, 3) := by decide +kernel
theorem d_Reader_readTerm_48 : decode Y_Reader_readTerm.2.1 48 = .ok (.aload_n 0, 1) := by decide +kernel
theorem d_Reader_readTerm_49 : decode Y_Reader_readTerm.2.1 49 = .ok (.getfield 22, 3) := by decide +kernel
theorem d_Reader_readTerm_52 : decode Y_Reader_readTerm.2.1 52 = .ok (.getfield 143, 3) := by decide +kernel
theorem d_Reader_readTerm_55 : decode Y_Reader_readTerm.2.1 55 = .ok (.iload_n 2, 1) := by decide +kernel
theorem d_Reader_readTerm_56 : decode Y_Reader_readTerm.2.1 56 = .ok (.invokevirtual 149, 3) := by decide +kernel
theorem d_Reader_readTerm_59 : decode Y_Reader_readTerm.2.1 59 = .ok (.aload_n 0, 1) := by decide +kernel
theorem d_Reader_readTerm_60 : decode Y_Reader_readTerm.2.1 60 = .ok (.getfield 12, 3) := by decide +kernel
theorem d_Reader_readTerm_63 : decode Y_Reader_readTerm.2.1 63 = .ok (.getfield 52, 3) := by decide +kernel
theorem d_Reader_readTerm_66 : decode Y_Reader_readTerm.2.1 66 = .ok (.invokestatic 171, 3) := by decide +kernel
theorem d_Reader_readTerm_69 : decode Y_Reader_readTerm.2.1 69 = .ok (.istore_n 2, 1) := by decide +kernel
theorem d_Reader_readTerm_70 : decode Y_Reader_readTerm.2.1 70 = .ok (.iinc 3 1, 3) := by decide +kernel
theorem d_Reader_readTerm_73 : decode Y_Reader_readTerm.2.1 73 = .ok (.goto (-55), 3) := by decide +kernel
theorem d_Reader_readTerm_76 : decode Y_Reader_readTerm.2.1 76 = .ok (.return_, 1) := by decide +kernel
theorem e_Reader_readTerm {l : Launch} {G : GT} {d : Nat} {P : MM → Prop} {m : MM} (x1 : Int)  (H : wfM m → inR x1 → ∃ (e1 : Nat) (P2 : MM → Prop), e1 < d ∧ CV l G Y_Reader_readUnit e1 [.inr (.inr 2), .inl x1] m P2 ∧ (∀ m8, P2 m8 → wfM m8 → (∃ (e12 : Nat) (P13 : Int → MM → Prop), e12 < d ∧ CI l G Y_Reader_product e12 [.inl (m8 3 4)] m8 P13 ∧ (∀ z18 m19, P13 z18 m19 → inR z18 → wfM m19 → (Wq l G false Y_Reader_readTerm d (QV P) 18 [(0, .inr (.inr 2)), (1, .inl x1), (2, .inl z18), (3, .inl 0)] [] m19))))) : CV l G Y_Reader_readTerm d [.inr (.inr 2), .inl x1] m P := by
  refine CV.of [(0, .inr (.inr 2)), (1, .inl x1)] k_Reader_readTerm.1 (Nat.le_of_ble_eq_true rfl) rfl (Wp.wf (fun hw _ hl hs => ?_))
  have H0 := H hw (hl _ (List.mem_of_getElem? (i := 1) rfl))
  refine Wp.aload_n 0 0 d_Reader_readTerm_0 rfl rfl ?_
  refine Wp.iload_n 1 1 d_Reader_readTerm_1 rfl rfl ?_
  obtain ⟨e1, P2, hd3, ho4, H5⟩ := H0
  refine Wq.VV (st := []) [.inl x1] d_Reader_readTerm_2 k_Reader_readUnit ml_Reader_168 rfl rfl rfl (fun h => by cases h) (Nat.le_of_ble_eq_true rfl) hd3 ho4 (fun m8 hp9 hw11 => ?_)
  have H6 := H5 m8 hp9 hw11
  refine Wp.aload_n 0 0 d_Reader_readTerm_5 rfl rfl ?_
  refine Wp.getP 3 d_Reader_readTerm_6 fl_Reader_12 rfl rfl rfl ?_
  refine Wq.getI 4 rfl d_Reader_readTerm_9 fl_Reader_52 rfl (Or.inl rfl) ?_
  obtain ⟨e12, P13, hd14, ho15, H16⟩ := H6
  refine Wq.SI (st := []) [.inl (m8 3 4)] d_Reader_readTerm_12 k_Reader_product ml_Reader_171 rfl  (fun h => by cases h) (Nat.le_of_ble_eq_true rfl) hd14 ho15 (fun z18 m19 hp20 hz21 hw22 => ?_)
  have H17 := H16 z18 m19 hp20 hz21 hw22
  refine Wp.istore_n 2 [(0, .inr (.inr 2)), (1, .inl x1), (2, .inl z18)] d_Reader_readTerm_15 rfl (by decide) rfl ?_
  refine Wp.iconst d_Reader_readTerm_16 (by decide) ?_
  refine Wp.istore_n 3 [(0, .inr (.inr 2)), (1, .inl x1), (2, .inl z18), (3, .inl 0)] d_Reader_readTerm_17 rfl (by decide) rfl ?_
  exact H17
theorem s_Reader_readTerm_18 {l : Launch} {G : GT} {d : Nat} {P : MM → Prop} {m : MM} (x1 : Int) (x2 : Int) (x3 : Int)  (H : wfM m → inR x1 → inR x2 → inR x3 → (x3 ≥ 30 → (P m)) ∧ (¬ (x3 ≥ 30) → (((m 2 6) ≠ 0 → (P m)) ∧ (¬ ((m 2 6) ≠ 0) → ((x2 = (-1) → (P m)) ∧ (¬ (x2 = (-1)) → (∃ (e16 : Nat) (P17 : MM → Prop), e16 < d ∧ CV l G Y_Tokens_next e16 [.inr (.inr 3)] m P17 ∧ (∀ m23, P17 m23 → wfM m23 → (∃ (e27 : Nat) (P28 : MM → Prop), e27 < d ∧ CV l G Y_Reader_readUnit e27 [.inr (.inr 2), .inl x1] m23 P28 ∧ (∀ m34, P28 m34 → wfM m34 → (∃ b38 : Nat, m34 2 2 = b38 ∧ isB b38 ∧ (∃ (e42 : Nat) (P43 : MM → Prop), e42 < d ∧ CV l G Y_Formula_add e42 [.inr (.inr (b38 + 6)), .inl x2] m34 P43 ∧ (∀ m49, P43 m49 → wfM m49 → (∃ (e53 : Nat) (P54 : Int → MM → Prop), e53 < d ∧ CI l G Y_Reader_product e53 [.inl (m49 3 4)] m49 P54 ∧ (∀ z59 m60, P54 z59 m60 → inR z59 → wfM m60 → ((inR (x3 + 1)) ∧ (Wq l G false Y_Reader_readTerm d (QV P) 18 [(0, .inr (.inr 2)), (1, .inl x1), (2, .inl z59), (3, .inl (x3 + 1))] [] m60))))))))))))))))) : Wq l G false Y_Reader_readTerm d (QV P) 18 [(0, .inr (.inr 2)), (1, .inl x1), (2, .inl x2), (3, .inl x3)] [] m := by
  refine Wp.wf (fun hw _ hl hs => ?_)
  have H0 := H hw (hl _ (List.mem_of_getElem? (i := 1) rfl)) (hl _ (List.mem_of_getElem? (i := 2) rfl)) (hl _ (List.mem_of_getElem? (i := 3) rfl))
  refine Wp.iload_n 3 3 d_Reader_readTerm_18 rfl rfl ?_
  refine Wp.bipush d_Reader_readTerm_19 (by decide) (by decide) ?_
  obtain ⟨H2, H3⟩ := H0
  refine Wp.icmp_ge 76 d_Reader_readTerm_21 (by decide) (fun c1 => ?_) (fun c1 => ?_)
  · have H4 := H2 c1
    exact Wq.vret d_Reader_readTerm_76 rfl H4
  · have H5 := H3 c1
    refine Wp.aload_n 0 0 d_Reader_readTerm_24 rfl rfl ?_
    refine Wq.getI 6 rfl d_Reader_readTerm_25 fl_Reader_41 rfl (Or.inl rfl) ?_
    obtain ⟨H7, H8⟩ := H5
    refine Wp.if_ne 76 d_Reader_readTerm_28 (by decide) (fun c6 => ?_) (fun c6 => ?_)
    · have H9 := H7 c6
      exact Wq.vret d_Reader_readTerm_76 rfl H9
    · have H10 := H8 c6
      refine Wp.iload_n 2 2 d_Reader_readTerm_31 rfl rfl ?_
      refine Wp.iconst d_Reader_readTerm_32 (by decide) ?_
      obtain ⟨H12, H13⟩ := H10
      refine Wp.icmp_eq 76 d_Reader_readTerm_33 (by decide) (fun c11 => ?_) (fun c11 => ?_)
      · have H14 := H12 c11
        exact Wq.vret d_Reader_readTerm_76 rfl H14
      · have H15 := H13 c11
        refine Wp.aload_n 0 0 d_Reader_readTerm_36 rfl rfl ?_
        refine Wp.getP 3 d_Reader_readTerm_37 fl_Reader_12 rfl rfl rfl ?_
        obtain ⟨e16, P17, hd18, ho19, H20⟩ := H15
        refine Wq.VV (st := []) [] d_Reader_readTerm_40 k_Tokens_next ml_Reader_76 rfl rfl rfl (fun h => by cases h) (Nat.le_of_ble_eq_true rfl) hd18 ho19 (fun m23 hp24 hw26 => ?_)
        have H21 := H20 m23 hp24 hw26
        refine Wp.aload_n 0 0 d_Reader_readTerm_43 rfl rfl ?_
        refine Wp.iload_n 1 1 d_Reader_readTerm_44 rfl rfl ?_
        obtain ⟨e27, P28, hd29, ho30, H31⟩ := H21
        refine Wq.VV (st := []) [.inl x1] d_Reader_readTerm_45 k_Reader_readUnit ml_Reader_168 rfl rfl rfl (fun h => by cases h) (Nat.le_of_ble_eq_true rfl) hd29 ho30 (fun m34 hp35 hw37 => ?_)
        have H32 := H31 m34 hp35 hw37
        refine Wp.aload_n 0 0 d_Reader_readTerm_48 rfl rfl ?_
        obtain ⟨b38, hb39, hB40, H41⟩ := H32
        refine Wp.getR b38 d_Reader_readTerm_49 fl_Reader_22 rfl (Or.inl rfl) rfl hb39 ?_
        refine Wp.getP (b38 + 6) d_Reader_readTerm_52 fl_Reader_143 (isB_lay hB40) rfl (isB_p10 hB40) ?_
        refine Wp.iload_n 2 2 d_Reader_readTerm_55 rfl rfl ?_
        obtain ⟨e42, P43, hd44, ho45, H46⟩ := H41
        refine Wq.VV (st := []) [.inl x2] d_Reader_readTerm_56 k_Formula_add ml_Reader_149 rfl (isF_lay (isB_f hB40)) rfl (fun h => by cases h) (Nat.le_of_ble_eq_true rfl) hd44 ho45 (fun m49 hp50 hw52 => ?_)
        have H47 := H46 m49 hp50 hw52
        refine Wp.aload_n 0 0 d_Reader_readTerm_59 rfl rfl ?_
        refine Wp.getP 3 d_Reader_readTerm_60 fl_Reader_12 rfl rfl rfl ?_
        refine Wq.getI 4 rfl d_Reader_readTerm_63 fl_Reader_52 rfl (Or.inl rfl) ?_
        obtain ⟨e53, P54, hd55, ho56, H57⟩ := H47
        refine Wq.SI (st := []) [.inl (m49 3 4)] d_Reader_readTerm_66 k_Reader_product ml_Reader_171 rfl  (fun h => by cases h) (Nat.le_of_ble_eq_true rfl) hd55 ho56 (fun z59 m60 hp61 hz62 hw63 => ?_)
        have H58 := H57 z59 m60 hp61 hz62 hw63
        refine Wp.istore_n 2 [(0, .inr (.inr 2)), (1, .inl x1), (2, .inl z59), (3, .inl x3)] d_Reader_readTerm_69 rfl (by decide) rfl ?_
        obtain ⟨s64, H65⟩ := H58
        refine Wp.iinc 3 3 [(0, .inr (.inr 2)), (1, .inl x1), (2, .inl z59), (3, .inl (x3 + 1))] d_Reader_readTerm_70 rfl s64 (by decide) rfl ?_
        refine Wp.goto 18 d_Reader_readTerm_73 (by decide) ?_
        exact H65
theorem d_Reader_readUnit_0 : decode Y_Reader_readUnit.2.1 0 = .ok (.aload_n 0, 1) := by decide +kernel
theorem d_Reader_readUnit_1 : decode Y_Reader_readUnit.2.1 1 = .ok (.getfield 41, 3) := by decide +kernel
theorem d_Reader_readUnit_4 : decode Y_Reader_readUnit.2.1 4 = .ok (.ifCond .eq 4, 3) := by decide +kernel
theorem d_Reader_readUnit_7 : decode Y_Reader_readUnit.2.1 7 = .ok (.return_, 1) := by decide +kernel
theorem d_Reader_readUnit_8 : decode Y_Reader_readUnit.2.1 8 = .ok (.aload_n 0, 1) := by decide +kernel
theorem d_Reader_readUnit_9 : decode Y_Reader_readUnit.2.1 9 = .ok (.getfield 12, 3) := by decide +kernel
theorem d_Reader_readUnit_12 : decode Y_Reader_readUnit.2.1 12 = .ok (.getfield 52, 3) := by decide +kernel
theorem d_Reader_readUnit_15 : decode Y_Reader_readUnit.2.1 15 = .ok (.bipush 40, 2) := by decide +kernel
theorem d_Reader_readUnit_17 : decode Y_Reader_readUnit.2.1 17 = .ok (.if_icmp .ne 7, 3) := by decide +kernel
theorem d_Reader_readUnit_20 : decode Y_Reader_readUnit.2.1 20 = .ok (.iconst 1, 1) := by decide +kernel
theorem d_Reader_readUnit_21 : decode Y_Reader_readUnit.2.1 21 = .ok (.goto 4, 3) := by decide +kernel
theorem d_Reader_readUnit_24 : decode Y_Reader_readUnit.2.1 24 = .ok (.iconst 0, 1) := by decide +kernel
theorem d_Reader_readUnit_25 : decode Y_Reader_readUnit.2.1 25 = .ok (.istore_n 2, 1) := by decide +kernel
theorem d_Reader_readUnit_26 : decode Y_Reader_readUnit.2.1 26 = .ok (.aload_n 0, 1) := by decide +kernel
theorem d_Reader_readUnit_27 : decode Y_Reader_readUnit.2.1 27 = .ok (.invokevirtual 174, 3) := by decide +kernel
theorem d_Reader_readUnit_30 : decode Y_Reader_readUnit.2.1 30 = .ok (.istore_n 3, 1) := by decide +kernel
theorem d_Reader_readUnit_31 : decode Y_Reader_readUnit.2.1 31 = .ok (.iload_n 2, 1) := by decide +kernel
theorem d_Reader_readUnit_32 : decode Y_Reader_readUnit.2.1 32 = .ok (.ifCond .ne 13, 3) := by decide +kernel
theorem d_Reader_readUnit_35 : decode Y_Reader_readUnit.2.1 35 = .ok (.iload_n 3, 1) := by decide +kernel
theorem d_Reader_readUnit_36 : decode Y_Reader_readUnit.2.1 36 = .ok (.iconst (-1), 1) := by decide +kernel
theorem d_Reader_readUnit_37 : decode Y_Reader_readUnit.2.1 37 = .ok (.if_icmp .ne 8, 3) := by decide +kernel
theorem d_Reader_readUnit_40 : decode Y_Reader_readUnit.2.1 40 = .ok (.aload_n 0, 1) := by decide +kernel
theorem d_Reader_readUnit_41 : decode Y_Reader_readUnit.2.1 41 = .ok (.invokevirtual 73, 3) := by decide +kernel
theorem d_Reader_readUnit_44 : decode Y_Reader_readUnit.2.1 44 = .ok (.return_, 1) := by decide +kernel
theorem d_Reader_readUnit_45 : decode Y_Reader_readUnit.2.1 45 = .ok (.aload_n 0, 1) := by decide +kernel
theorem d_Reader_readUnit_46 : decode Y_Reader_readUnit.2.1 46 = .ok (.getfield 22, 3) := by decide +kernel
theorem d_Reader_readUnit_49 : decode Y_Reader_readUnit.2.1 49 = .ok (.getfield 177, 3) := by decide +kernel
theorem d_Reader_readUnit_52 : decode Y_Reader_readUnit.2.1 52 = .ok (.bipush 30, 2) := by decide +kernel
theorem d_Reader_readUnit_54 : decode Y_Reader_readUnit.2.1 54 = .ok (.if_icmp .ge 13, 3) := by decide +kernel
theorem d_Reader_readUnit_57 : decode Y_Reader_readUnit.2.1 57 = .ok (.iload_n 2, 1) := by decide +kernel
theorem d_Reader_readUnit_58 : decode Y_Reader_readUnit.2.1 58 = .ok (.ifCond .eq 22, 3) := by decide +kernel
theorem d_Reader_readUnit_61 : decode Y_Reader_readUnit.2.1 61 = .ok (.iload_n 1, 1) := by decide +kernel
theorem d_Reader_readUnit_62 : decode Y_Reader_readUnit.2.1 62 = .ok (.bipush 6, 2) := by decide +kernel
theorem d_Reader_readUnit_64 : decode Y_Reader_readUnit.2.1 64 = .ok (.if_icmp .le 16, 3) := by decide +kernel
theorem d_Reader_readUnit_67 : decode Y_Reader_readUnit.2.1 67 = .ok (.aload_n 0, 1) := by decide +kernel
theorem d_Reader_readUnit_68 : decode Y_Reader_readUnit.2.1 68 = .ok (.iconst 2, 1) := by decide +kernel
theorem d_Reader_readUnit_69 : decode Y_Reader_readUnit.2.1 69 = .ok (.aload_n 0, 1) := by decide +kernel
theorem d_Reader_readUnit_70 : decode Y_Reader_readUnit.2.1 70 = .ok (.getfield 12, 3) := by decide +kernel
theorem d_Reader_readUnit_73 : decode Y_Reader_readUnit.2.1 73 = .ok (.getfield 66, 3) := by decide +kernel
theorem d_Reader_readUnit_76 : decode Y_Reader_readUnit.2.1 76 = .ok (.invokevirtual 62, 3) := by decide +kernel
theorem d_Reader_readUnit_79 : decode Y_Reader_readUnit.2.1 79 = .ok (.return_, 1) := by decide +kernel
theorem d_Reader_readUnit_80 : decode Y_Reader_readUnit.2.1 80 = .ok (.aload_n 0, 1) := by decide +kernel
theorem d_Reader_readUnit_81 : decode Y_Reader_readUnit.2.1 81 = .ok (.getfield 22, 3) := by decide +kernel
theorem d_Reader_readUnit_84 : decode Y_Reader_readUnit.2.1 84 = .ok (.dup, 1) := by decide +kernel
theorem d_Reader_readUnit_85 : decode Y_Reader_readUnit.2.1 85 = .ok (.getfield 177, 3) := by decide +kernel
theorem d_Reader_readUnit_88 : decode Y_Reader_readUnit.2.1 88 = .ok (.iconst 1, 1) := by decide +kernel
theorem d_Reader_readUnit_89 : decode Y_Reader_readUnit.2.1 89 = .ok (.iadd, 1) := by decide +kernel
theorem d_Reader_readUnit_90 : decode Y_Reader_readUnit.2.1 90 = .ok (.putfield 177, 3) := by decide +kernel
theorem d_Reader_readUnit_93 : decode Y_Reader_readUnit.2.1 93 = .ok (.aload_n 0, 1) := by decide +kernel
theorem d_Reader_readUnit_94 : decode Y_Reader_readUnit.2.1 94 = .ok (.getfield 12, 3) := by decide +kernel
theorem d_Reader_readUnit_97 : decode Y_Reader_readUnit.2.1 97 = .ok (.invokevirtual 76, 3) := by decide +kernel
theorem d_Reader_readUnit_100 : decode Y_Reader_readUnit.2.1 100 = .ok (.iload_n 2, 1) := by decide +kernel
theorem d_Reader_readUnit_101 : decode Y_Reader_readUnit.2.1 101 = .ok (.ifCond .eq 19, 3) := by decide +kernel
theorem d_Reader_readUnit_104 : decode Y_Reader_readUnit.2.1 104 = .ok (.aload_n 0, 1) := by decide +kernel
theorem d_Reader_readUnit_105 : decode Y_Reader_readUnit.2.1 105 = .ok (.iload_n 1, 1) := by decide +kernel
theorem d_Reader_readUnit_106 : decode Y_Reader_readUnit.2.1 106 = .ok (.iconst 1, 1) := by decide +kernel
theorem d_Reader_readUnit_107 : decode Y_Reader_readUnit.2.1 107 = .ok (.iadd, 1) := by decide +kernel
theorem d_Reader_readUnit_108 : decode Y_Reader_readUnit.2.1 108 = .ok (.invokevirtual 88, 3) := by decide +kernel
theorem d_Reader_readUnit_111 : decode Y_Reader_readUnit.2.1 111 = .ok (.aload_n 0, 1) := by decide +kernel
theorem d_Reader_readUnit_112 : decode Y_Reader_readUnit.2.1 112 = .ok (.bipush 41, 2) := by decide +kernel
theorem d_Reader_readUnit_114 : decode Y_Reader_readUnit.2.1 114 = .ok (.invokevirtual 102, 3) := by decide +kernel
theorem d_Reader_readUnit_117 : decode Y_Reader_readUnit.2.1 117 = .ok (.goto 14, 3) := by decide +kernel
theorem d_Reader_readUnit_120 : decode Y_Reader_readUnit.2.1 120 = .ok (.aload_n 0, 1) := by decide +kernel
theorem d_Reader_readUnit_121 : decode Y_Reader_readUnit.2.1 121 = .ok (.getfield 22, 3) := by decide +kernel
theorem d_Reader_readUnit_124 : decode Y_Reader_readUnit.2.1 124 = .ok (.getfield 143, 3) := by decide +kernel
theorem d_Reader_readUnit_127 : decode Y_Reader_readUnit.2.1 127 = .ok (.iload_n 3, 1) := by decide +kernel
theorem d_Reader_readUnit_128 : decode Y_Reader_readUnit.2.1 128 = .ok (.invokevirtual 149, 3) := by decide +kernel
theorem d_Reader_readUnit_131 : decode Y_Reader_readUnit.2.1 131 = .ok (.return_, 1) := by decide +kernel
theorem e_Reader_readUnit {l : Launch} {G : GT} {d : Nat} {P : MM → Prop} {m : MM} (x1 : Int)  (H : wfM m → inR x1 → ((m 2 6) = 0 → (((m 3 4) ≠ 40 → (Wq l G false Y_Reader_readUnit d (QV P) 25 [(0, .inr (.inr 2)), (1, .inl x1)] [.inl 0] m)) ∧ (¬ ((m 3 4) ≠ 40) → (Wq l G false Y_Reader_readUnit d (QV P) 25 [(0, .inr (.inr 2)), (1, .inl x1)] [.inl 1] m)))) ∧ (¬ ((m 2 6) = 0) → (P m))) : CV l G Y_Reader_readUnit d [.inr (.inr 2), .inl x1] m P := by
  refine CV.of [(0, .inr (.inr 2)), (1, .inl x1)] k_Reader_readUnit.1 (Nat.le_of_ble_eq_true rfl) rfl (Wp.wf (fun hw _ hl hs => ?_))
  have H0 := H hw (hl _ (List.mem_of_getElem? (i := 1) rfl))
  refine Wp.aload_n 0 0 d_Reader_readUnit_0 rfl rfl ?_
  refine Wq.getI 6 rfl d_Reader_readUnit_1 fl_Reader_41 rfl (Or.inl rfl) ?_
  obtain ⟨H2, H3⟩ := H0
  refine Wp.if_eq 8 d_Reader_readUnit_4 (by decide) (fun c1 => ?_) (fun c1 => ?_)
  · have H4 := H2 c1
    refine Wp.aload_n 0 0 d_Reader_readUnit_8 rfl rfl ?_
    refine Wp.getP 3 d_Reader_readUnit_9 fl_Reader_12 rfl rfl rfl ?_
    refine Wq.getI 4 rfl d_Reader_readUnit_12 fl_Reader_52 rfl (Or.inl rfl) ?_
    refine Wp.bipush d_Reader_readUnit_15 (by decide) (by decide) ?_
    obtain ⟨H7, H8⟩ := H4
    refine Wp.icmp_ne 24 d_Reader_readUnit_17 (by decide) (fun c6 => ?_) (fun c6 => ?_)
    · have H9 := H7 c6
      refine Wp.iconst d_Reader_readUnit_24 (by decide) ?_
      exact H9
    · have H10 := H8 c6
      refine Wp.iconst d_Reader_readUnit_20 (by decide) ?_
      refine Wp.goto 25 d_Reader_readUnit_21 (by decide) ?_
      exact H10
  · have H5 := H3 c1
    exact Wq.vret d_Reader_readUnit_7 rfl H5
theorem s_Reader_readUnit_25 {l : Launch} {G : GT} {d : Nat} {P : MM → Prop} {m : MM} (x1 : Int) (y0 : Int)  (H : wfM m → inR x1 → inR y0 → ∃ (e1 : Nat) (P2 : Int → MM → Prop), e1 < d ∧ CI l G Y_Reader_unitSign e1 [.inr (.inr 2)] m P2 ∧ (∀ z7 m8, P2 z7 m8 → inR z7 → wfM m8 → ((y0 ≠ 0 → (∃ b17 : Nat, m8 2 2 = b17 ∧ isB b17 ∧ (((m8 b17 4) ≥ 30 → (∃ (e26 : Nat) (P27 : MM → Prop), e26 < d ∧ CV l G Y_Reader_tellFault e26 [.inr (.inr 2), .inl 2, .inl (m8 3 5)] m8 P27 ∧ (∀ m33, P27 m33 → wfM m33 → (P m33)))) ∧ (¬ ((m8 b17 4) ≥ 30) → ((y0 = 0 → (Wq l G false Y_Reader_readUnit d (QV P) 80 [(0, .inr (.inr 2)), (1, .inl x1), (2, .inl y0), (3, .inl z7)] [] m8)) ∧ (¬ (y0 = 0) → ((x1 ≤ 6 → (Wq l G false Y_Reader_readUnit d (QV P) 80 [(0, .inr (.inr 2)), (1, .inl x1), (2, .inl y0), (3, .inl z7)] [] m8)) ∧ (¬ (x1 ≤ 6) → (∃ (e47 : Nat) (P48 : MM → Prop), e47 < d ∧ CV l G Y_Reader_tellFault e47 [.inr (.inr 2), .inl 2, .inl (m8 3 5)] m8 P48 ∧ (∀ m54, P48 m54 → wfM m54 → (P m54))))))))))) ∧ (¬ (y0 ≠ 0) → ((z7 ≠ (-1) → (∃ b63 : Nat, m8 2 2 = b63 ∧ isB b63 ∧ (((m8 b63 4) ≥ 30 → (∃ (e72 : Nat) (P73 : MM → Prop), e72 < d ∧ CV l G Y_Reader_tellFault e72 [.inr (.inr 2), .inl 2, .inl (m8 3 5)] m8 P73 ∧ (∀ m79, P73 m79 → wfM m79 → (P m79)))) ∧ (¬ ((m8 b63 4) ≥ 30) → ((y0 = 0 → (Wq l G false Y_Reader_readUnit d (QV P) 80 [(0, .inr (.inr 2)), (1, .inl x1), (2, .inl y0), (3, .inl z7)] [] m8)) ∧ (¬ (y0 = 0) → ((x1 ≤ 6 → (Wq l G false Y_Reader_readUnit d (QV P) 80 [(0, .inr (.inr 2)), (1, .inl x1), (2, .inl y0), (3, .inl z7)] [] m8)) ∧ (¬ (x1 ≤ 6) → (∃ (e93 : Nat) (P94 : MM → Prop), e93 < d ∧ CV l G Y_Reader_tellFault e93 [.inr (.inr 2), .inl 2, .inl (m8 3 5)] m8 P94 ∧ (∀ m100, P94 m100 → wfM m100 → (P m100))))))))))) ∧ (¬ (z7 ≠ (-1)) → (∃ (e104 : Nat) (P105 : MM → Prop), e104 < d ∧ CV l G Y_Reader_refuseToken e104 [.inr (.inr 2)] m8 P105 ∧ (∀ m111, P105 m111 → wfM m111 → (P m111))))))))) : Wq l G false Y_Reader_readUnit d (QV P) 25 [(0, .inr (.inr 2)), (1, .inl x1)] [.inl y0] m := by
  refine Wp.wf (fun hw _ hl hs => ?_)
  have H0 := H hw (hl _ (List.mem_of_getElem? (i := 1) rfl)) (hs _ (List.mem_of_getElem? (i := 0) rfl))
  refine Wp.istore_n 2 [(0, .inr (.inr 2)), (1, .inl x1), (2, .inl y0)] d_Reader_readUnit_25 rfl (by decide) rfl ?_
  refine Wp.aload_n 0 0 d_Reader_readUnit_26 rfl rfl ?_
  obtain ⟨e1, P2, hd3, ho4, H5⟩ := H0
  refine Wq.VI (st := []) [] d_Reader_readUnit_27 k_Reader_unitSign ml_Reader_174 rfl rfl rfl (fun h => by cases h) (Nat.le_of_ble_eq_true rfl) hd3 ho4 (fun z7 m8 hp9 hz10 hw11 => ?_)
  have H6 := H5 z7 m8 hp9 hz10 hw11
  refine Wp.istore_n 3 [(0, .inr (.inr 2)), (1, .inl x1), (2, .inl y0), (3, .inl z7)] d_Reader_readUnit_30 rfl (by decide) rfl ?_
  refine Wp.iload_n 2 2 d_Reader_readUnit_31 rfl rfl ?_
  obtain ⟨H13, H14⟩ := H6
  refine Wp.if_ne 45 d_Reader_readUnit_32 (by decide) (fun c12 => ?_) (fun c12 => ?_)
  · have H15 := H13 c12
    refine Wp.aload_n 0 0 d_Reader_readUnit_45 rfl rfl ?_
    obtain ⟨b17, hb18, hB19, H20⟩ := H15
    refine Wp.getR b17 d_Reader_readUnit_46 fl_Reader_22 rfl (Or.inl rfl) rfl hb18 ?_
    refine Wq.getI 4 rfl d_Reader_readUnit_49 fl_Reader_177 (isB_lay hB19) (Or.inl rfl) ?_
    refine Wp.bipush d_Reader_readUnit_52 (by decide) (by decide) ?_
    obtain ⟨H22, H23⟩ := H20
    refine Wp.icmp_ge 67 d_Reader_readUnit_54 (by decide) (fun c21 => ?_) (fun c21 => ?_)
    · have H24 := H22 c21
      refine Wp.aload_n 0 0 d_Reader_readUnit_67 rfl rfl ?_
      refine Wp.iconst d_Reader_readUnit_68 (by decide) ?_
      refine Wp.aload_n 0 0 d_Reader_readUnit_69 rfl rfl ?_
      refine Wp.getP 3 d_Reader_readUnit_70 fl_Reader_12 rfl rfl rfl ?_
      refine Wq.getI 5 rfl d_Reader_readUnit_73 fl_Reader_66 rfl (Or.inl rfl) ?_
      obtain ⟨e26, P27, hd28, ho29, H30⟩ := H24
      refine Wq.VV (st := []) [.inl 2, .inl (m8 3 5)] d_Reader_readUnit_76 k_Reader_tellFault ml_Reader_62 rfl rfl rfl (fun h => by cases h) (Nat.le_of_ble_eq_true rfl) hd28 ho29 (fun m33 hp34 hw36 => ?_)
      have H31 := H30 m33 hp34 hw36
      exact Wq.vret d_Reader_readUnit_79 rfl H31
    · have H25 := H23 c21
      refine Wp.iload_n 2 2 d_Reader_readUnit_57 rfl rfl ?_
      obtain ⟨H38, H39⟩ := H25
      refine Wp.if_eq 80 d_Reader_readUnit_58 (by decide) (fun c37 => ?_) (fun c37 => ?_)
      · have H40 := H38 c37
        exact H40
      · have H41 := H39 c37
        refine Wp.iload_n 1 1 d_Reader_readUnit_61 rfl rfl ?_
        refine Wp.bipush d_Reader_readUnit_62 (by decide) (by decide) ?_
        obtain ⟨H43, H44⟩ := H41
        refine Wp.icmp_le 80 d_Reader_readUnit_64 (by decide) (fun c42 => ?_) (fun c42 => ?_)
        · have H45 := H43 c42
          exact H45
        · have H46 := H44 c42
          refine Wp.aload_n 0 0 d_Reader_readUnit_67 rfl rfl ?_
          refine Wp.iconst d_Reader_readUnit_68 (by decide) ?_
          refine Wp.aload_n 0 0 d_Reader_readUnit_69 rfl rfl ?_
          refine Wp.getP 3 d_Reader_readUnit_70 fl_Reader_12 rfl rfl rfl ?_
          refine Wq.getI 5 rfl d_Reader_readUnit_73 fl_Reader_66 rfl (Or.inl rfl) ?_
          obtain ⟨e47, P48, hd49, ho50, H51⟩ := H46
          refine Wq.VV (st := []) [.inl 2, .inl (m8 3 5)] d_Reader_readUnit_76 k_Reader_tellFault ml_Reader_62 rfl rfl rfl (fun h => by cases h) (Nat.le_of_ble_eq_true rfl) hd49 ho50 (fun m54 hp55 hw57 => ?_)
          have H52 := H51 m54 hp55 hw57
          exact Wq.vret d_Reader_readUnit_79 rfl H52
  · have H16 := H14 c12
    refine Wp.iload_n 3 3 d_Reader_readUnit_35 rfl rfl ?_
    refine Wp.iconst d_Reader_readUnit_36 (by decide) ?_
    obtain ⟨H59, H60⟩ := H16
    refine Wp.icmp_ne 45 d_Reader_readUnit_37 (by decide) (fun c58 => ?_) (fun c58 => ?_)
    · have H61 := H59 c58
      refine Wp.aload_n 0 0 d_Reader_readUnit_45 rfl rfl ?_
      obtain ⟨b63, hb64, hB65, H66⟩ := H61
      refine Wp.getR b63 d_Reader_readUnit_46 fl_Reader_22 rfl (Or.inl rfl) rfl hb64 ?_
      refine Wq.getI 4 rfl d_Reader_readUnit_49 fl_Reader_177 (isB_lay hB65) (Or.inl rfl) ?_
      refine Wp.bipush d_Reader_readUnit_52 (by decide) (by decide) ?_
      obtain ⟨H68, H69⟩ := H66
      refine Wp.icmp_ge 67 d_Reader_readUnit_54 (by decide) (fun c67 => ?_) (fun c67 => ?_)
      · have H70 := H68 c67
        refine Wp.aload_n 0 0 d_Reader_readUnit_67 rfl rfl ?_
        refine Wp.iconst d_Reader_readUnit_68 (by decide) ?_
        refine Wp.aload_n 0 0 d_Reader_readUnit_69 rfl rfl ?_
        refine Wp.getP 3 d_Reader_readUnit_70 fl_Reader_12 rfl rfl rfl ?_
        refine Wq.getI 5 rfl d_Reader_readUnit_73 fl_Reader_66 rfl (Or.inl rfl) ?_
        obtain ⟨e72, P73, hd74, ho75, H76⟩ := H70
        refine Wq.VV (st := []) [.inl 2, .inl (m8 3 5)] d_Reader_readUnit_76 k_Reader_tellFault ml_Reader_62 rfl rfl rfl (fun h => by cases h) (Nat.le_of_ble_eq_true rfl) hd74 ho75 (fun m79 hp80 hw82 => ?_)
        have H77 := H76 m79 hp80 hw82
        exact Wq.vret d_Reader_readUnit_79 rfl H77
      · have H71 := H69 c67
        refine Wp.iload_n 2 2 d_Reader_readUnit_57 rfl rfl ?_
        obtain ⟨H84, H85⟩ := H71
        refine Wp.if_eq 80 d_Reader_readUnit_58 (by decide) (fun c83 => ?_) (fun c83 => ?_)
        · have H86 := H84 c83
          exact H86
        · have H87 := H85 c83
          refine Wp.iload_n 1 1 d_Reader_readUnit_61 rfl rfl ?_
          refine Wp.bipush d_Reader_readUnit_62 (by decide) (by decide) ?_
          obtain ⟨H89, H90⟩ := H87
          refine Wp.icmp_le 80 d_Reader_readUnit_64 (by decide) (fun c88 => ?_) (fun c88 => ?_)
          · have H91 := H89 c88
            exact H91
          · have H92 := H90 c88
            refine Wp.aload_n 0 0 d_Reader_readUnit_67 rfl rfl ?_
            refine Wp.iconst d_Reader_readUnit_68 (by decide) ?_
            refine Wp.aload_n 0 0 d_Reader_readUnit_69 rfl rfl ?_
            refine Wp.getP 3 d_Reader_readUnit_70 fl_Reader_12 rfl rfl rfl ?_
            refine Wq.getI 5 rfl d_Reader_readUnit_73 fl_Reader_66 rfl (Or.inl rfl) ?_
            obtain ⟨e93, P94, hd95, ho96, H97⟩ := H92
            refine Wq.VV (st := []) [.inl 2, .inl (m8 3 5)] d_Reader_readUnit_76 k_Reader_tellFault ml_Reader_62 rfl rfl rfl (fun h => by cases h) (Nat.le_of_ble_eq_true rfl) hd95 ho96 (fun m100 hp101 hw103 => ?_)
            have H98 := H97 m100 hp101 hw103
            exact Wq.vret d_Reader_readUnit_79 rfl H98
    · have H62 := H60 c58
      refine Wp.aload_n 0 0 d_Reader_readUnit_40 rfl rfl ?_
      obtain ⟨e104, P105, hd106, ho107, H108⟩ := H62
      refine Wq.VV (st := []) [] d_Reader_readUnit_41 k_Reader_refuseToken ml_Reader_73 rfl rfl rfl (fun h => by cases h) (Nat.le_of_ble_eq_true rfl) hd106 ho107 (fun m111 hp112 hw114 => ?_)
      have H109 := H108 m111 hp112 hw114
      exact Wq.vret d_Reader_readUnit_44 rfl H109
theorem s_Reader_readUnit_80 {l : Launch} {G : GT} {d : Nat} {P : MM → Prop} {m : MM} (x1 : Int) (x2 : Int) (x3 : Int)  (H : wfM m → inR x1 → inR x2 → inR x3 → ∃ b1 : Nat, m 2 2 = b1 ∧ isB b1 ∧ ((inR ((m b1 4) + 1)) ∧ (∀ m7, m7 = up m b1 4 ((m b1 4) + 1) → (∃ (e10 : Nat) (P11 : MM → Prop), e10 < d ∧ CV l G Y_Tokens_next e10 [.inr (.inr 3)] m7 P11 ∧ (∀ m17, P11 m17 → wfM m17 → ((x2 = 0 → (∃ b26 : Nat, m17 2 2 = b26 ∧ isB b26 ∧ (∃ (e30 : Nat) (P31 : MM → Prop), e30 < d ∧ CV l G Y_Formula_add e30 [.inr (.inr (b26 + 6)), .inl x3] m17 P31 ∧ (∀ m37, P31 m37 → wfM m37 → (P m37))))) ∧ (¬ (x2 = 0) → ((inR (x1 + 1)) ∧ (∃ (e43 : Nat) (P44 : MM → Prop), e43 < d ∧ CV l G Y_Reader_readEither e43 [.inr (.inr 2), .inl (x1 + 1)] m17 P44 ∧ (∀ m50, P44 m50 → wfM m50 → (∃ (e54 : Nat) (P55 : MM → Prop), e54 < d ∧ CV l G Y_Reader_expect e54 [.inr (.inr 2), .inl 41] m50 P55 ∧ (∀ m61, P55 m61 → wfM m61 → (P m61))))))))))))) : Wq l G false Y_Reader_readUnit d (QV P) 80 [(0, .inr (.inr 2)), (1, .inl x1), (2, .inl x2), (3, .inl x3)] [] m := by
  refine Wp.wf (fun hw _ hl hs => ?_)
  have H0 := H hw (hl _ (List.mem_of_getElem? (i := 1) rfl)) (hl _ (List.mem_of_getElem? (i := 2) rfl)) (hl _ (List.mem_of_getElem? (i := 3) rfl))
  refine Wp.aload_n 0 0 d_Reader_readUnit_80 rfl rfl ?_
  obtain ⟨b1, hb2, hB3, H4⟩ := H0
  refine Wp.getR b1 d_Reader_readUnit_81 fl_Reader_22 rfl (Or.inl rfl) rfl hb2 ?_
  refine Wp.dup d_Reader_readUnit_84 rfl ?_
  refine Wq.getI 4 rfl d_Reader_readUnit_85 fl_Reader_177 (isB_lay hB3) (Or.inl rfl) ?_
  refine Wp.iconst d_Reader_readUnit_88 (by decide) ?_
  obtain ⟨s5, H6⟩ := H4
  refine Wp.iadd d_Reader_readUnit_89 s5 ?_
  refine Wq.putI 4 rfl d_Reader_readUnit_90 fl_Reader_177 (fun _ _ _ h => by cases h; rfl) (isB_lay hB3) (isB_n4 hB3) rfl (fun m7 hm8 => ?_)
  have H9 := H6 m7 hm8
  refine Wp.aload_n 0 0 d_Reader_readUnit_93 rfl rfl ?_
  refine Wp.getP 3 d_Reader_readUnit_94 fl_Reader_12 rfl rfl rfl ?_
  obtain ⟨e10, P11, hd12, ho13, H14⟩ := H9
  refine Wq.VV (st := []) [] d_Reader_readUnit_97 k_Tokens_next ml_Reader_76 rfl rfl rfl (fun h => by cases h) (Nat.le_of_ble_eq_true rfl) hd12 ho13 (fun m17 hp18 hw20 => ?_)
  have H15 := H14 m17 hp18 hw20
  refine Wp.iload_n 2 2 d_Reader_readUnit_100 rfl rfl ?_
  obtain ⟨H22, H23⟩ := H15
  refine Wp.if_eq 120 d_Reader_readUnit_101 (by decide) (fun c21 => ?_) (fun c21 => ?_)
  · have H24 := H22 c21
    refine Wp.aload_n 0 0 d_Reader_readUnit_120 rfl rfl ?_
    obtain ⟨b26, hb27, hB28, H29⟩ := H24
    refine Wp.getR b26 d_Reader_readUnit_121 fl_Reader_22 rfl (Or.inl rfl) rfl hb27 ?_
    refine Wp.getP (b26 + 6) d_Reader_readUnit_124 fl_Reader_143 (isB_lay hB28) rfl (isB_p10 hB28) ?_
    refine Wp.iload_n 3 3 d_Reader_readUnit_127 rfl rfl ?_
    obtain ⟨e30, P31, hd32, ho33, H34⟩ := H29
    refine Wq.VV (st := []) [.inl x3] d_Reader_readUnit_128 k_Formula_add ml_Reader_149 rfl (isF_lay (isB_f hB28)) rfl (fun h => by cases h) (Nat.le_of_ble_eq_true rfl) hd32 ho33 (fun m37 hp38 hw40 => ?_)
    have H35 := H34 m37 hp38 hw40
    exact Wq.vret d_Reader_readUnit_131 rfl H35
  · have H25 := H23 c21
    refine Wp.aload_n 0 0 d_Reader_readUnit_104 rfl rfl ?_
    refine Wp.iload_n 1 1 d_Reader_readUnit_105 rfl rfl ?_
    refine Wp.iconst d_Reader_readUnit_106 (by decide) ?_
    obtain ⟨s41, H42⟩ := H25
    refine Wp.iadd d_Reader_readUnit_107 s41 ?_
    obtain ⟨e43, P44, hd45, ho46, H47⟩ := H42
    refine Wq.VV (st := []) [.inl (x1 + 1)] d_Reader_readUnit_108 k_Reader_readEither ml_Reader_88 rfl rfl rfl (fun h => by cases h) (Nat.le_of_ble_eq_true rfl) hd45 ho46 (fun m50 hp51 hw53 => ?_)
    have H48 := H47 m50 hp51 hw53
    refine Wp.aload_n 0 0 d_Reader_readUnit_111 rfl rfl ?_
    refine Wp.bipush d_Reader_readUnit_112 (by decide) (by decide) ?_
    obtain ⟨e54, P55, hd56, ho57, H58⟩ := H48
    refine Wq.VV (st := []) [.inl 41] d_Reader_readUnit_114 k_Reader_expect ml_Reader_102 rfl rfl rfl (fun h => by cases h) (Nat.le_of_ble_eq_true rfl) hd56 ho57 (fun m61 hp62 hw64 => ?_)
    have H59 := H58 m61 hp62 hw64
    refine Wp.goto 131 d_Reader_readUnit_117 (by decide) ?_
    exact Wq.vret d_Reader_readUnit_131 rfl H59
theorem d_Reader_unitSign_0 : decode Y_Reader_unitSign.2.1 0 = .ok (.aload_n 0, 1) := by decide +kernel
theorem d_Reader_unitSign_1 : decode Y_Reader_unitSign.2.1 1 = .ok (.getfield 12, 3) := by decide +kernel
theorem d_Reader_unitSign_4 : decode Y_Reader_unitSign.2.1 4 = .ok (.getfield 52, 3) := by decide +kernel
theorem d_Reader_unitSign_7 : decode Y_Reader_unitSign.2.1 7 = .ok (.lookupswitch 74 #[(3, 49), (111, 58), (112, 62), (113, 66), (114, 70)], 49) := by decide +kernel
theorem d_Reader_unitSign_56 : decode Y_Reader_unitSign.2.1 56 = .ok (.aload_n 0, 1) := by decide +kernel
theorem d_Reader_unitSign_57 : decode Y_Reader_unitSign.2.1 57 = .ok (.getfield 12, 3) := by decide +kernel
theorem d_Reader_unitSign_60 : decode Y_Reader_unitSign.2.1 60 = .ok (.getfield 108, 3) := by decide +kernel
theorem d_Reader_unitSign_63 : decode Y_Reader_unitSign.2.1 63 = .ok (.l2i, 1) := by decide +kernel
theorem d_Reader_unitSign_64 : decode Y_Reader_unitSign.2.1 64 = .ok (.ireturn, 1) := by decide +kernel
theorem d_Reader_unitSign_65 : decode Y_Reader_unitSign.2.1 65 = .ok (.sipush 10000, 3) := by decide +kernel
theorem d_Reader_unitSign_68 : decode Y_Reader_unitSign.2.1 68 = .ok (.ireturn, 1) := by decide +kernel
theorem d_Reader_unitSign_69 : decode Y_Reader_unitSign.2.1 69 = .ok (.sipush 10001, 3) := by decide +kernel
theorem d_Reader_unitSign_72 : decode Y_Reader_unitSign.2.1 72 = .ok (.ireturn, 1) := by decide +kernel
theorem d_Reader_unitSign_73 : decode Y_Reader_unitSign.2.1 73 = .ok (.sipush 10002, 3) := by decide +kernel
theorem d_Reader_unitSign_76 : decode Y_Reader_unitSign.2.1 76 = .ok (.ireturn, 1) := by decide +kernel
theorem d_Reader_unitSign_77 : decode Y_Reader_unitSign.2.1 77 = .ok (.sipush 10003, 3) := by decide +kernel
theorem d_Reader_unitSign_80 : decode Y_Reader_unitSign.2.1 80 = .ok (.ireturn, 1) := by decide +kernel
theorem d_Reader_unitSign_81 : decode Y_Reader_unitSign.2.1 81 = .ok (.iconst (-1), 1) := by decide +kernel
theorem d_Reader_unitSign_82 : decode Y_Reader_unitSign.2.1 82 = .ok (.ireturn, 1) := by decide +kernel
theorem e_Reader_unitSign {l : Launch} {G : GT} {d : Nat} {P : Int → MM → Prop} {m : MM}   (H : wfM m → ((m 3 4) = 3 → ((inR (m 3 6)) ∧ (P (m 3 6) m))) ∧ ((m 3 4) = 111 → (P 10000 m)) ∧ ((m 3 4) = 112 → (P 10001 m)) ∧ ((m 3 4) = 113 → (P 10002 m)) ∧ ((m 3 4) = 114 → (P 10003 m)) ∧ (¬ ((m 3 4) = 3) → ¬ ((m 3 4) = 111) → ¬ ((m 3 4) = 112) → ¬ ((m 3 4) = 113) → ¬ ((m 3 4) = 114) → (P (-1) m))) : CI l G Y_Reader_unitSign d [.inr (.inr 2)] m P := by
  refine CI.of [(0, .inr (.inr 2))] k_Reader_unitSign.1 (Nat.le_of_ble_eq_true rfl) rfl (Wp.wf (fun hw _ hl hs => ?_))
  have H0 := H hw
  refine Wp.aload_n 0 0 d_Reader_unitSign_0 rfl rfl ?_
  refine Wp.getP 3 d_Reader_unitSign_1 fl_Reader_12 rfl rfl rfl ?_
  refine Wq.getI 4 rfl d_Reader_unitSign_4 fl_Reader_52 rfl (Or.inl rfl) ?_
  obtain ⟨H1, H2⟩ := H0
  by_cases c3 : (m 3 4) = 3
  · have H4 := H1 c3
    refine Wp.lks 56 d_Reader_unitSign_7 (by decide) (off := 49) (by rw [c3]; rfl) (by decide) ?_
    refine Wp.aload_n 0 0 d_Reader_unitSign_56 rfl rfl ?_
    refine Wp.getP 3 d_Reader_unitSign_57 fl_Reader_12 rfl rfl rfl ?_
    refine Wq.getL 6 rfl d_Reader_unitSign_60 fl_Reader_108 rfl rfl ?_
    obtain ⟨s5, H6⟩ := H4
    refine Wq.l2i d_Reader_unitSign_63 s5 ?_
    exact Wq.iret d_Reader_unitSign_64 rfl H6
  obtain ⟨H7, H8⟩ := H2
  by_cases c9 : (m 3 4) = 111
  · have H10 := H7 c9
    refine Wp.lks 65 d_Reader_unitSign_7 (by decide) (off := 58) (by rw [c9]; rfl) (by decide) ?_
    refine Wp.sipush d_Reader_unitSign_65 (by decide) (by decide) ?_
    exact Wq.iret d_Reader_unitSign_68 rfl H10
  obtain ⟨H11, H12⟩ := H8
  by_cases c13 : (m 3 4) = 112
  · have H14 := H11 c13
    refine Wp.lks 69 d_Reader_unitSign_7 (by decide) (off := 62) (by rw [c13]; rfl) (by decide) ?_
    refine Wp.sipush d_Reader_unitSign_69 (by decide) (by decide) ?_
    exact Wq.iret d_Reader_unitSign_72 rfl H14
  obtain ⟨H15, H16⟩ := H12
  by_cases c17 : (m 3 4) = 113
  · have H18 := H15 c17
    refine Wp.lks 73 d_Reader_unitSign_7 (by decide) (off := 66) (by rw [c17]; rfl) (by decide) ?_
    refine Wp.sipush d_Reader_unitSign_73 (by decide) (by decide) ?_
    exact Wq.iret d_Reader_unitSign_76 rfl H18
  obtain ⟨H19, H20⟩ := H16
  by_cases c21 : (m 3 4) = 114
  · have H22 := H19 c21
    refine Wp.lks 77 d_Reader_unitSign_7 (by decide) (off := 70) (by rw [c21]; rfl) (by decide) ?_
    refine Wp.sipush d_Reader_unitSign_77 (by decide) (by decide) ?_
    exact Wq.iret d_Reader_unitSign_80 rfl H22
  have H23 := H20 c3 c9 c13 c17 c21
  refine Wp.lks 81 d_Reader_unitSign_7 (by decide) (off := 74) (by simp only [Op.lookupswitch.offset]; simp [Ne.symm c3, c3, Ne.symm c9, c9, Ne.symm c13, c13, Ne.symm c17, c17, Ne.symm c21, c21]) (by decide) ?_
  refine Wp.iconst d_Reader_unitSign_81 (by decide) ?_
  exact Wq.iret d_Reader_unitSign_82 rfl H23
theorem d_Reader_expect_0 : decode Y_Reader_expect.2.1 0 = .ok (.aload_n 0, 1) := by decide +kernel
theorem d_Reader_expect_1 : decode Y_Reader_expect.2.1 1 = .ok (.getfield 41, 3) := by decide +kernel
theorem d_Reader_expect_4 : decode Y_Reader_expect.2.1 4 = .ok (.ifCond .eq 4, 3) := by decide +kernel
theorem d_Reader_expect_7 : decode Y_Reader_expect.2.1 7 = .ok (.return_, 1) := by decide +kernel
theorem d_Reader_expect_8 : decode Y_Reader_expect.2.1 8 = .ok (.aload_n 0, 1) := by decide +kernel
theorem d_Reader_expect_9 : decode Y_Reader_expect.2.1 9 = .ok (.getfield 12, 3) := by decide +kernel
theorem d_Reader_expect_12 : decode Y_Reader_expect.2.1 12 = .ok (.getfield 52, 3) := by decide +kernel
theorem d_Reader_expect_15 : decode Y_Reader_expect.2.1 15 = .ok (.iload_n 1, 1) := by decide +kernel
theorem d_Reader_expect_16 : decode Y_Reader_expect.2.1 16 = .ok (.if_icmp .ne 13, 3) := by decide +kernel
theorem d_Reader_expect_19 : decode Y_Reader_expect.2.1 19 = .ok (.aload_n 0, 1) := by decide +kernel
theorem d_Reader_expect_20 : decode Y_Reader_expect.2.1 20 = .ok (.getfield 12, 3) := by decide +kernel
theorem d_Reader_expect_23 : decode Y_Reader_expect.2.1 23 = .ok (.invokevirtual 76, 3) := by decide +kernel
theorem d_Reader_expect_26 : decode Y_Reader_expect.2.1 26 = .ok (.goto 7, 3) := by decide +kernel
theorem d_Reader_expect_29 : decode Y_Reader_expect.2.1 29 = .ok (.aload_n 0, 1) := by decide +kernel
theorem d_Reader_expect_30 : decode Y_Reader_expect.2.1 30 = .ok (.invokevirtual 73, 3) := by decide +kernel
theorem d_Reader_expect_33 : decode Y_Reader_expect.2.1 33 = .ok (.return_, 1) := by decide +kernel
theorem e_Reader_expect {l : Launch} {G : GT} {d : Nat} {P : MM → Prop} {m : MM} (x1 : Int)  (H : wfM m → inR x1 → ((m 2 6) = 0 → (((m 3 4) ≠ x1 → (∃ (e11 : Nat) (P12 : MM → Prop), e11 < d ∧ CV l G Y_Reader_refuseToken e11 [.inr (.inr 2)] m P12 ∧ (∀ m18, P12 m18 → wfM m18 → (P m18)))) ∧ (¬ ((m 3 4) ≠ x1) → (∃ (e22 : Nat) (P23 : MM → Prop), e22 < d ∧ CV l G Y_Tokens_next e22 [.inr (.inr 3)] m P23 ∧ (∀ m29, P23 m29 → wfM m29 → (P m29)))))) ∧ (¬ ((m 2 6) = 0) → (P m))) : CV l G Y_Reader_expect d [.inr (.inr 2), .inl x1] m P := by
  refine CV.of [(0, .inr (.inr 2)), (1, .inl x1)] k_Reader_expect.1 (Nat.le_of_ble_eq_true rfl) rfl (Wp.wf (fun hw _ hl hs => ?_))
  have H0 := H hw (hl _ (List.mem_of_getElem? (i := 1) rfl))
  refine Wp.aload_n 0 0 d_Reader_expect_0 rfl rfl ?_
  refine Wq.getI 6 rfl d_Reader_expect_1 fl_Reader_41 rfl (Or.inl rfl) ?_
  obtain ⟨H2, H3⟩ := H0
  refine Wp.if_eq 8 d_Reader_expect_4 (by decide) (fun c1 => ?_) (fun c1 => ?_)
  · have H4 := H2 c1
    refine Wp.aload_n 0 0 d_Reader_expect_8 rfl rfl ?_
    refine Wp.getP 3 d_Reader_expect_9 fl_Reader_12 rfl rfl rfl ?_
    refine Wq.getI 4 rfl d_Reader_expect_12 fl_Reader_52 rfl (Or.inl rfl) ?_
    refine Wp.iload_n 1 1 d_Reader_expect_15 rfl rfl ?_
    obtain ⟨H7, H8⟩ := H4
    refine Wp.icmp_ne 29 d_Reader_expect_16 (by decide) (fun c6 => ?_) (fun c6 => ?_)
    · have H9 := H7 c6
      refine Wp.aload_n 0 0 d_Reader_expect_29 rfl rfl ?_
      obtain ⟨e11, P12, hd13, ho14, H15⟩ := H9
      refine Wq.VV (st := []) [] d_Reader_expect_30 k_Reader_refuseToken ml_Reader_73 rfl rfl rfl (fun h => by cases h) (Nat.le_of_ble_eq_true rfl) hd13 ho14 (fun m18 hp19 hw21 => ?_)
      have H16 := H15 m18 hp19 hw21
      exact Wq.vret d_Reader_expect_33 rfl H16
    · have H10 := H8 c6
      refine Wp.aload_n 0 0 d_Reader_expect_19 rfl rfl ?_
      refine Wp.getP 3 d_Reader_expect_20 fl_Reader_12 rfl rfl rfl ?_
      obtain ⟨e22, P23, hd24, ho25, H26⟩ := H10
      refine Wq.VV (st := []) [] d_Reader_expect_23 k_Tokens_next ml_Reader_76 rfl rfl rfl (fun h => by cases h) (Nat.le_of_ble_eq_true rfl) hd24 ho25 (fun m29 hp30 hw32 => ?_)
      have H27 := H26 m29 hp30 hw32
      refine Wp.goto 33 d_Reader_expect_26 (by decide) ?_
      exact Wq.vret d_Reader_expect_33 rfl H27
  · have H5 := H3 c1
    exact Wq.vret d_Reader_expect_7 rfl H5
theorem d_Reader_product_0 : decode Y_Reader_product.2.1 0 = .ok (.iload_n 0, 1) := by decide +kernel
theorem d_Reader_product_1 : decode Y_Reader_product.2.1 1 = .ok (.lookupswitch 47 #[(37, 43), (42, 35), (47, 39)], 35) := by decide +kernel
theorem d_Reader_product_36 : decode Y_Reader_product.2.1 36 = .ok (.sipush 10018, 3) := by decide +kernel
theorem d_Reader_product_39 : decode Y_Reader_product.2.1 39 = .ok (.ireturn, 1) := by decide +kernel
theorem d_Reader_product_40 : decode Y_Reader_product.2.1 40 = .ok (.sipush 10019, 3) := by decide +kernel
theorem d_Reader_product_43 : decode Y_Reader_product.2.1 43 = .ok (.ireturn, 1) := by decide +kernel
theorem d_Reader_product_44 : decode Y_Reader_product.2.1 44 = .ok (.sipush 10020, 3) := by decide +kernel
theorem d_Reader_product_47 : decode Y_Reader_product.2.1 47 = .ok (.ireturn, 1) := by decide +kernel
theorem d_Reader_product_48 : decode Y_Reader_product.2.1 48 = .ok (.iconst (-1), 1) := by decide +kernel
theorem d_Reader_product_49 : decode Y_Reader_product.2.1 49 = .ok (.ireturn, 1) := by decide +kernel
theorem e_Reader_product {l : Launch} {G : GT} {d : Nat} {P : Int → MM → Prop} {m : MM} (x0 : Int)  (H : wfM m → inR x0 → (x0 = 37 → (P 10020 m)) ∧ (x0 = 42 → (P 10018 m)) ∧ (x0 = 47 → (P 10019 m)) ∧ (¬ (x0 = 37) → ¬ (x0 = 42) → ¬ (x0 = 47) → (P (-1) m))) : CI l G Y_Reader_product d [.inl x0] m P := by
  refine CI.of [(0, .inl x0)] k_Reader_product.1 (Nat.le_of_ble_eq_true rfl) rfl (Wp.wf (fun hw _ hl hs => ?_))
  have H0 := H hw (hl _ (List.mem_of_getElem? (i := 0) rfl))
  refine Wp.iload_n 0 0 d_Reader_product_0 rfl rfl ?_
  obtain ⟨H1, H2⟩ := H0
  by_cases c3 : x0 = 37
  · have H4 := H1 c3
    refine Wp.lks 44 d_Reader_product_1 (by decide) (off := 43) (by rw [c3]; rfl) (by decide) ?_
    refine Wp.sipush d_Reader_product_44 (by decide) (by decide) ?_
    exact Wq.iret d_Reader_product_47 rfl H4
  obtain ⟨H5, H6⟩ := H2
  by_cases c7 : x0 = 42
  · have H8 := H5 c7
    refine Wp.lks 36 d_Reader_product_1 (by decide) (off := 35) (by rw [c7]; rfl) (by decide) ?_
    refine Wp.sipush d_Reader_product_36 (by decide) (by decide) ?_
    exact Wq.iret d_Reader_product_39 rfl H8
  obtain ⟨H9, H10⟩ := H6
  by_cases c11 : x0 = 47
  · have H12 := H9 c11
    refine Wp.lks 40 d_Reader_product_1 (by decide) (off := 39) (by rw [c11]; rfl) (by decide) ?_
    refine Wp.sipush d_Reader_product_40 (by decide) (by decide) ?_
    exact Wq.iret d_Reader_product_43 rfl H12
  have H13 := H10 c3 c7 c11
  refine Wp.lks 48 d_Reader_product_1 (by decide) (off := 47) (by simp only [Op.lookupswitch.offset]; simp [Ne.symm c3, c3, Ne.symm c7, c7, Ne.symm c11, c11]) (by decide) ?_
  refine Wp.iconst d_Reader_product_48 (by decide) ?_
  exact Wq.iret d_Reader_product_49 rfl H13
theorem d_Reader_relation_0 : decode Y_Reader_relation.2.1 0 = .ok (.iload_n 0, 1) := by decide +kernel
theorem d_Reader_relation_1 : decode Y_Reader_relation.2.1 1 = .ok (.tableswitch 39 60 62 #[27, 35, 31], 27) := by decide +kernel
theorem d_Reader_relation_28 : decode Y_Reader_relation.2.1 28 = .ok (.sipush 10013, 3) := by decide +kernel
theorem d_Reader_relation_31 : decode Y_Reader_relation.2.1 31 = .ok (.ireturn, 1) := by decide +kernel
theorem d_Reader_relation_32 : decode Y_Reader_relation.2.1 32 = .ok (.sipush 10014, 3) := by decide +kernel
theorem d_Reader_relation_35 : decode Y_Reader_relation.2.1 35 = .ok (.ireturn, 1) := by decide +kernel
theorem d_Reader_relation_36 : decode Y_Reader_relation.2.1 36 = .ok (.sipush 10015, 3) := by decide +kernel
theorem d_Reader_relation_39 : decode Y_Reader_relation.2.1 39 = .ok (.ireturn, 1) := by decide +kernel
theorem d_Reader_relation_40 : decode Y_Reader_relation.2.1 40 = .ok (.iconst (-1), 1) := by decide +kernel
theorem d_Reader_relation_41 : decode Y_Reader_relation.2.1 41 = .ok (.ireturn, 1) := by decide +kernel
theorem e_Reader_relation {l : Launch} {G : GT} {d : Nat} {P : Int → MM → Prop} {m : MM} (x0 : Int)  (H : wfM m → inR x0 → (x0 = 60 → (P 10013 m)) ∧ (x0 = 61 → (P 10015 m)) ∧ (x0 = 62 → (P 10014 m)) ∧ (¬ (x0 = 60) → ¬ (x0 = 61) → ¬ (x0 = 62) → (P (-1) m))) : CI l G Y_Reader_relation d [.inl x0] m P := by
  refine CI.of [(0, .inl x0)] k_Reader_relation.1 (Nat.le_of_ble_eq_true rfl) rfl (Wp.wf (fun hw _ hl hs => ?_))
  have H0 := H hw (hl _ (List.mem_of_getElem? (i := 0) rfl))
  refine Wp.iload_n 0 0 d_Reader_relation_0 rfl rfl ?_
  obtain ⟨H1, H2⟩ := H0
  by_cases c3 : x0 = 60
  · have H4 := H1 c3
    refine Wp.tin (off := 27) 60 28 d_Reader_relation_1 c3 (by decide +kernel) (by decide +kernel) (by decide +kernel) (by decide +kernel) ?_
    refine Wp.sipush d_Reader_relation_28 (by decide) (by decide) ?_
    exact Wq.iret d_Reader_relation_31 rfl H4
  obtain ⟨H5, H6⟩ := H2
  by_cases c7 : x0 = 61
  · have H8 := H5 c7
    refine Wp.tin (off := 35) 61 36 d_Reader_relation_1 c7 (by decide +kernel) (by decide +kernel) (by decide +kernel) (by decide +kernel) ?_
    refine Wp.sipush d_Reader_relation_36 (by decide) (by decide) ?_
    exact Wq.iret d_Reader_relation_39 rfl H8
  obtain ⟨H9, H10⟩ := H6
  by_cases c11 : x0 = 62
  · have H12 := H9 c11
    refine Wp.tin (off := 31) 62 32 d_Reader_relation_1 c11 (by decide +kernel) (by decide +kernel) (by decide +kernel) (by decide +kernel) ?_
    refine Wp.sipush d_Reader_relation_32 (by decide) (by decide) ?_
    exact Wq.iret d_Reader_relation_35 rfl H12
  have H13 := H10 c3 c7 c11
  have ho1 : x0 < 60 ∨ 62 < x0 := (lt_or_geI x0 60).elim Or.inl (fun h9 => Or.inr (Int.lt_of_lt_of_le (by decide +kernel) (ne_step (ne_step (ne_step h9 c3) c7) c11)))
  refine Wp.tout 40 d_Reader_relation_1 ho1 (by decide +kernel) ?_
  refine Wp.iconst d_Reader_relation_40 (by decide) ?_
  exact Wq.iret d_Reader_relation_41 rfl H13
