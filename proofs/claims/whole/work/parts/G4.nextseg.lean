theorem d_Tokens_next_0 : decode Y_Tokens_next.2.1 0 = .ok (.aload_n 0, 1) := by decide +kernel
theorem d_Tokens_next_1 : decode Y_Tokens_next.2.1 1 = .ok (.getfield 40, 3) := by decide +kernel
theorem d_Tokens_next_4 : decode Y_Tokens_next.2.1 4 = .ok (.aload_n 0, 1) := by decide +kernel
theorem d_Tokens_next_5 : decode Y_Tokens_next.2.1 5 = .ok (.getfield 37, 3) := by decide +kernel
theorem d_Tokens_next_8 : decode Y_Tokens_next.2.1 8 = .ok (.if_icmp .ge 44, 3) := by decide +kernel
theorem d_Tokens_next_11 : decode Y_Tokens_next.2.1 11 = .ok (.aload_n 0, 1) := by decide +kernel
theorem d_Tokens_next_12 : decode Y_Tokens_next.2.1 12 = .ok (.getfield 13, 3) := by decide +kernel
theorem d_Tokens_next_15 : decode Y_Tokens_next.2.1 15 = .ok (.aload_n 0, 1) := by decide +kernel
theorem d_Tokens_next_16 : decode Y_Tokens_next.2.1 16 = .ok (.getfield 40, 3) := by decide +kernel
theorem d_Tokens_next_19 : decode Y_Tokens_next.2.1 19 = .ok (.iaload, 1) := by decide +kernel
theorem d_Tokens_next_20 : decode Y_Tokens_next.2.1 20 = .ok (.bipush 32, 2) := by decide +kernel
theorem d_Tokens_next_22 : decode Y_Tokens_next.2.1 22 = .ok (.if_icmp .eq 17, 3) := by decide +kernel
theorem d_Tokens_next_25 : decode Y_Tokens_next.2.1 25 = .ok (.aload_n 0, 1) := by decide +kernel
theorem d_Tokens_next_26 : decode Y_Tokens_next.2.1 26 = .ok (.getfield 13, 3) := by decide +kernel
theorem d_Tokens_next_29 : decode Y_Tokens_next.2.1 29 = .ok (.aload_n 0, 1) := by decide +kernel
theorem d_Tokens_next_30 : decode Y_Tokens_next.2.1 30 = .ok (.getfield 40, 3) := by decide +kernel
theorem d_Tokens_next_33 : decode Y_Tokens_next.2.1 33 = .ok (.iaload, 1) := by decide +kernel
theorem d_Tokens_next_34 : decode Y_Tokens_next.2.1 34 = .ok (.bipush 10, 2) := by decide +kernel
theorem d_Tokens_next_36 : decode Y_Tokens_next.2.1 36 = .ok (.if_icmp .ne 16, 3) := by decide +kernel
theorem d_Tokens_next_39 : decode Y_Tokens_next.2.1 39 = .ok (.aload_n 0, 1) := by decide +kernel
theorem d_Tokens_next_40 : decode Y_Tokens_next.2.1 40 = .ok (.dup, 1) := by decide +kernel
theorem d_Tokens_next_41 : decode Y_Tokens_next.2.1 41 = .ok (.getfield 40, 3) := by decide +kernel
theorem d_Tokens_next_44 : decode Y_Tokens_next.2.1 44 = .ok (.iconst 1, 1) := by decide +kernel
theorem d_Tokens_next_45 : decode Y_Tokens_next.2.1 45 = .ok (.iadd, 1) := by decide +kernel
theorem d_Tokens_next_46 : decode Y_Tokens_next.2.1 46 = .ok (.putfield 40, 3) := by decide +kernel
theorem d_Tokens_next_49 : decode Y_Tokens_next.2.1 49 = .ok (.goto (-49), 3) := by decide +kernel
theorem d_Tokens_next_52 : decode Y_Tokens_next.2.1 52 = .ok (.aload_n 0, 1) := by decide +kernel
theorem d_Tokens_next_53 : decode Y_Tokens_next.2.1 53 = .ok (.aload_n 0, 1) := by decide +kernel
theorem d_Tokens_next_54 : decode Y_Tokens_next.2.1 54 = .ok (.getfield 40, 3) := by decide +kernel
theorem d_Tokens_next_57 : decode Y_Tokens_next.2.1 57 = .ok (.putfield 46, 3) := by decide +kernel
theorem d_Tokens_next_60 : decode Y_Tokens_next.2.1 60 = .ok (.aload_n 0, 1) := by decide +kernel
theorem d_Tokens_next_61 : decode Y_Tokens_next.2.1 61 = .ok (.lconst 0, 1) := by decide +kernel
theorem d_Tokens_next_62 : decode Y_Tokens_next.2.1 62 = .ok (.putfield 49, 3) := by decide +kernel
theorem d_Tokens_next_65 : decode Y_Tokens_next.2.1 65 = .ok (.aload_n 0, 1) := by decide +kernel
theorem d_Tokens_next_66 : decode Y_Tokens_next.2.1 66 = .ok (.getfield 40, 3) := by decide +kernel
theorem d_Tokens_next_69 : decode Y_Tokens_next.2.1 69 = .ok (.aload_n 0, 1) := by decide +kernel
theorem d_Tokens_next_70 : decode Y_Tokens_next.2.1 70 = .ok (.getfield 37, 3) := by decide +kernel
theorem d_Tokens_next_73 : decode Y_Tokens_next.2.1 73 = .ok (.if_icmp .lt 11, 3) := by decide +kernel
theorem d_Tokens_next_76 : decode Y_Tokens_next.2.1 76 = .ok (.aload_n 0, 1) := by decide +kernel
theorem d_Tokens_next_77 : decode Y_Tokens_next.2.1 77 = .ok (.iconst 0, 1) := by decide +kernel
theorem d_Tokens_next_78 : decode Y_Tokens_next.2.1 78 = .ok (.putfield 53, 3) := by decide +kernel
theorem d_Tokens_next_81 : decode Y_Tokens_next.2.1 81 = .ok (.goto 92, 3) := by decide +kernel
theorem d_Tokens_next_84 : decode Y_Tokens_next.2.1 84 = .ok (.aload_n 0, 1) := by decide +kernel
theorem d_Tokens_next_85 : decode Y_Tokens_next.2.1 85 = .ok (.getfield 13, 3) := by decide +kernel
theorem d_Tokens_next_88 : decode Y_Tokens_next.2.1 88 = .ok (.aload_n 0, 1) := by decide +kernel
theorem d_Tokens_next_89 : decode Y_Tokens_next.2.1 89 = .ok (.getfield 40, 3) := by decide +kernel
theorem d_Tokens_next_92 : decode Y_Tokens_next.2.1 92 = .ok (.iaload, 1) := by decide +kernel
theorem d_Tokens_next_93 : decode Y_Tokens_next.2.1 93 = .ok (.invokestatic 56, 3) := by decide +kernel
theorem d_Tokens_next_96 : decode Y_Tokens_next.2.1 96 = .ok (.ifCond .eq 10, 3) := by decide +kernel
theorem d_Tokens_next_99 : decode Y_Tokens_next.2.1 99 = .ok (.aload_n 0, 1) := by decide +kernel
theorem d_Tokens_next_100 : decode Y_Tokens_next.2.1 100 = .ok (.invokevirtual 60, 3) := by decide +kernel
theorem d_Tokens_next_103 : decode Y_Tokens_next.2.1 103 = .ok (.goto 70, 3) := by decide +kernel
theorem d_Tokens_next_106 : decode Y_Tokens_next.2.1 106 = .ok (.aload_n 0, 1) := by decide +kernel
theorem d_Tokens_next_107 : decode Y_Tokens_next.2.1 107 = .ok (.getfield 13, 3) := by decide +kernel
theorem d_Tokens_next_110 : decode Y_Tokens_next.2.1 110 = .ok (.aload_n 0, 1) := by decide +kernel
theorem d_Tokens_next_111 : decode Y_Tokens_next.2.1 111 = .ok (.getfield 40, 3) := by decide +kernel
theorem d_Tokens_next_114 : decode Y_Tokens_next.2.1 114 = .ok (.iaload, 1) := by decide +kernel
theorem d_Tokens_next_115 : decode Y_Tokens_next.2.1 115 = .ok (.invokestatic 63, 3) := by decide +kernel
theorem d_Tokens_next_118 : decode Y_Tokens_next.2.1 118 = .ok (.ifCond .eq 10, 3) := by decide +kernel
theorem d_Tokens_next_121 : decode Y_Tokens_next.2.1 121 = .ok (.aload_n 0, 1) := by decide +kernel
theorem d_Tokens_next_122 : decode Y_Tokens_next.2.1 122 = .ok (.invokevirtual 66, 3) := by decide +kernel
theorem d_Tokens_next_125 : decode Y_Tokens_next.2.1 125 = .ok (.goto 48, 3) := by decide +kernel
theorem d_Tokens_next_128 : decode Y_Tokens_next.2.1 128 = .ok (.aload_n 0, 1) := by decide +kernel
theorem d_Tokens_next_129 : decode Y_Tokens_next.2.1 129 = .ok (.ldc 69, 2) := by decide +kernel
theorem d_Tokens_next_131 : decode Y_Tokens_next.2.1 131 = .ok (.aload_n 0, 1) := by decide +kernel
theorem d_Tokens_next_132 : decode Y_Tokens_next.2.1 132 = .ok (.getfield 13, 3) := by decide +kernel
theorem d_Tokens_next_135 : decode Y_Tokens_next.2.1 135 = .ok (.aload_n 0, 1) := by decide +kernel
theorem d_Tokens_next_136 : decode Y_Tokens_next.2.1 136 = .ok (.getfield 40, 3) := by decide +kernel
theorem d_Tokens_next_139 : decode Y_Tokens_next.2.1 139 = .ok (.iaload, 1) := by decide +kernel
theorem d_Tokens_next_140 : decode Y_Tokens_next.2.1 140 = .ok (.i2c, 1) := by decide +kernel
theorem d_Tokens_next_141 : decode Y_Tokens_next.2.1 141 = .ok (.invokevirtual 71, 3) := by decide +kernel
theorem d_Tokens_next_144 : decode Y_Tokens_next.2.1 144 = .ok (.ifCond .lt 15, 3) := by decide +kernel
theorem d_Tokens_next_147 : decode Y_Tokens_next.2.1 147 = .ok (.aload_n 0, 1) := by decide +kernel
theorem d_Tokens_next_148 : decode Y_Tokens_next.2.1 148 = .ok (.getfield 13, 3) := by decide +kernel
theorem d_Tokens_next_151 : decode Y_Tokens_next.2.1 151 = .ok (.aload_n 0, 1) := by decide +kernel
theorem d_Tokens_next_152 : decode Y_Tokens_next.2.1 152 = .ok (.getfield 40, 3) := by decide +kernel
theorem d_Tokens_next_155 : decode Y_Tokens_next.2.1 155 = .ok (.iaload, 1) := by decide +kernel
theorem d_Tokens_next_156 : decode Y_Tokens_next.2.1 156 = .ok (.goto 4, 3) := by decide +kernel
theorem d_Tokens_next_159 : decode Y_Tokens_next.2.1 159 = .ok (.iconst 1, 1) := by decide +kernel
theorem d_Tokens_next_160 : decode Y_Tokens_next.2.1 160 = .ok (.putfield 53, 3) := by decide +kernel
theorem d_Tokens_next_163 : decode Y_Tokens_next.2.1 163 = .ok (.aload_n 0, 1) := by decide +kernel
theorem d_Tokens_next_164 : decode Y_Tokens_next.2.1 164 = .ok (.dup, 1) := by decide +kernel
theorem d_Tokens_next_165 : decode Y_Tokens_next.2.1 165 = .ok (.getfield 40, 3) := by decide +kernel
theorem d_Tokens_next_168 : decode Y_Tokens_next.2.1 168 = .ok (.iconst 1, 1) := by decide +kernel
theorem d_Tokens_next_169 : decode Y_Tokens_next.2.1 169 = .ok (.iadd, 1) := by decide +kernel
theorem d_Tokens_next_170 : decode Y_Tokens_next.2.1 170 = .ok (.putfield 40, 3) := by decide +kernel
theorem d_Tokens_next_173 : decode Y_Tokens_next.2.1 173 = .ok (.return_, 1) := by decide +kernel
theorem e_Tokens_next {l : Launch} {G : GT} {d : Nat} {P : MM → Prop} {m : MM}   (H : wfM m → ((m 3 3) ≥ (m 3 2) → (Wq l G false Y_Tokens_next d (QV P) 52 [(0, .inr (.inr 3))] [] m)) ∧ (¬ ((m 3 3) ≥ (m 3 2)) → (∃ b6 n10 : Nat, m 3 1 = b6 ∧ q_lay b6 = .inr (0, n10) ∧ ((0 ≤ (m 3 3) ∧ (m 3 3) < (n10 : Int)) ∧ (((m b6 (m 3 3)) = 32 → ((inR ((m 3 3) + 1)) ∧ (∀ m20, m20 = up m 3 3 ((m 3 3) + 1) → (Wq l G false Y_Tokens_next d (QV P) 0 [(0, .inr (.inr 3))] [] m20)))) ∧ (¬ ((m b6 (m 3 3)) = 32) → (∃ b23 n27 : Nat, m 3 1 = b23 ∧ q_lay b23 = .inr (0, n27) ∧ ((0 ≤ (m 3 3) ∧ (m 3 3) < (n27 : Int)) ∧ (((m b23 (m 3 3)) ≠ 10 → (Wq l G false Y_Tokens_next d (QV P) 52 [(0, .inr (.inr 3))] [] m)) ∧ (¬ ((m b23 (m 3 3)) ≠ 10) → ((inR ((m 3 3) + 1)) ∧ (∀ m37, m37 = up m 3 3 ((m 3 3) + 1) → (Wq l G false Y_Tokens_next d (QV P) 0 [(0, .inr (.inr 3))] [] m37))))))))))))) : CV l G Y_Tokens_next d [.inr (.inr 3)] m P := by
  refine CV.of [(0, .inr (.inr 3))] k_Tokens_next.1 (Nat.le_of_ble_eq_true rfl) rfl (Wp.wf (fun hw _ hl hs => ?_))
  have H0 := H hw
  refine Wp.aload_n 0 0 d_Tokens_next_0 rfl rfl ?_
  refine Wq.getI 3 rfl d_Tokens_next_1 fl_Tokens_40 rfl (Or.inl rfl) ?_
  refine Wp.aload_n 0 0 d_Tokens_next_4 rfl rfl ?_
  refine Wq.getI 2 rfl d_Tokens_next_5 fl_Tokens_37 rfl (Or.inl rfl) ?_
  obtain ⟨H2, H3⟩ := H0
  refine Wp.icmp_ge 52 d_Tokens_next_8 (by decide) (fun c1 => ?_) (fun c1 => ?_)
  · have H4 := H2 c1
    exact H4
  · have H5 := H3 c1
    refine Wp.aload_n 0 0 d_Tokens_next_11 rfl rfl ?_
    obtain ⟨b6, n10, hb7, hB8, H9⟩ := H5
    refine Wp.getR b6 d_Tokens_next_12 fl_Tokens_13 rfl (Or.inl rfl) rfl hb7 ?_
    refine Wp.aload_n 0 0 d_Tokens_next_15 rfl rfl ?_
    refine Wq.getI 3 rfl d_Tokens_next_16 fl_Tokens_40 rfl (Or.inl rfl) ?_
    obtain ⟨s11, H12⟩ := H9
    refine Wp.iald d_Tokens_next_19 hB8 (Or.inl rfl) s11.1 s11.2 ?_
    refine Wp.bipush d_Tokens_next_20 (by decide) (by decide) ?_
    obtain ⟨H14, H15⟩ := H12
    refine Wp.icmp_eq 39 d_Tokens_next_22 (by decide) (fun c13 => ?_) (fun c13 => ?_)
    · have H16 := H14 c13
      refine Wp.aload_n 0 0 d_Tokens_next_39 rfl rfl ?_
      refine Wp.dup d_Tokens_next_40 rfl ?_
      refine Wq.getI 3 rfl d_Tokens_next_41 fl_Tokens_40 rfl (Or.inl rfl) ?_
      refine Wp.iconst d_Tokens_next_44 (by decide) ?_
      obtain ⟨s18, H19⟩ := H16
      refine Wp.iadd d_Tokens_next_45 s18 ?_
      refine Wq.putI 3 rfl d_Tokens_next_46 fl_Tokens_40 (fun _ _ _ h => by cases h; rfl) rfl rfl rfl (fun m20 hm21 => ?_)
      have H22 := H19 m20 hm21
      refine Wp.goto 0 d_Tokens_next_49 (by decide) ?_
      exact H22
    · have H17 := H15 c13
      refine Wp.aload_n 0 0 d_Tokens_next_25 rfl rfl ?_
      obtain ⟨b23, n27, hb24, hB25, H26⟩ := H17
      refine Wp.getR b23 d_Tokens_next_26 fl_Tokens_13 rfl (Or.inl rfl) rfl hb24 ?_
      refine Wp.aload_n 0 0 d_Tokens_next_29 rfl rfl ?_
      refine Wq.getI 3 rfl d_Tokens_next_30 fl_Tokens_40 rfl (Or.inl rfl) ?_
      obtain ⟨s28, H29⟩ := H26
      refine Wp.iald d_Tokens_next_33 hB25 (Or.inl rfl) s28.1 s28.2 ?_
      refine Wp.bipush d_Tokens_next_34 (by decide) (by decide) ?_
      obtain ⟨H31, H32⟩ := H29
      refine Wp.icmp_ne 52 d_Tokens_next_36 (by decide) (fun c30 => ?_) (fun c30 => ?_)
      · have H33 := H31 c30
        exact H33
      · have H34 := H32 c30
        refine Wp.aload_n 0 0 d_Tokens_next_39 rfl rfl ?_
        refine Wp.dup d_Tokens_next_40 rfl ?_
        refine Wq.getI 3 rfl d_Tokens_next_41 fl_Tokens_40 rfl (Or.inl rfl) ?_
        refine Wp.iconst d_Tokens_next_44 (by decide) ?_
        obtain ⟨s35, H36⟩ := H34
        refine Wp.iadd d_Tokens_next_45 s35 ?_
        refine Wq.putI 3 rfl d_Tokens_next_46 fl_Tokens_40 (fun _ _ _ h => by cases h; rfl) rfl rfl rfl (fun m37 hm38 => ?_)
        have H39 := H36 m37 hm38
        refine Wp.goto 0 d_Tokens_next_49 (by decide) ?_
        exact H39
theorem s_Tokens_next_0 {l : Launch} {G : GT} {d : Nat} {P : MM → Prop} {m : MM}   (H : wfM m → ((m 3 3) ≥ (m 3 2) → (Wq l G false Y_Tokens_next d (QV P) 52 [(0, .inr (.inr 3))] [] m)) ∧ (¬ ((m 3 3) ≥ (m 3 2)) → (∃ b6 n10 : Nat, m 3 1 = b6 ∧ q_lay b6 = .inr (0, n10) ∧ ((0 ≤ (m 3 3) ∧ (m 3 3) < (n10 : Int)) ∧ (((m b6 (m 3 3)) = 32 → ((inR ((m 3 3) + 1)) ∧ (∀ m20, m20 = up m 3 3 ((m 3 3) + 1) → (Wq l G false Y_Tokens_next d (QV P) 0 [(0, .inr (.inr 3))] [] m20)))) ∧ (¬ ((m b6 (m 3 3)) = 32) → (∃ b23 n27 : Nat, m 3 1 = b23 ∧ q_lay b23 = .inr (0, n27) ∧ ((0 ≤ (m 3 3) ∧ (m 3 3) < (n27 : Int)) ∧ (((m b23 (m 3 3)) ≠ 10 → (Wq l G false Y_Tokens_next d (QV P) 52 [(0, .inr (.inr 3))] [] m)) ∧ (¬ ((m b23 (m 3 3)) ≠ 10) → ((inR ((m 3 3) + 1)) ∧ (∀ m37, m37 = up m 3 3 ((m 3 3) + 1) → (Wq l G false Y_Tokens_next d (QV P) 0 [(0, .inr (.inr 3))] [] m37))))))))))))) : Wq l G false Y_Tokens_next d (QV P) 0 [(0, .inr (.inr 3))] [] m := by
  refine Wp.wf (fun hw _ hl hs => ?_)
  have H0 := H hw
  refine Wp.aload_n 0 0 d_Tokens_next_0 rfl rfl ?_
  refine Wq.getI 3 rfl d_Tokens_next_1 fl_Tokens_40 rfl (Or.inl rfl) ?_
  refine Wp.aload_n 0 0 d_Tokens_next_4 rfl rfl ?_
  refine Wq.getI 2 rfl d_Tokens_next_5 fl_Tokens_37 rfl (Or.inl rfl) ?_
  obtain ⟨H2, H3⟩ := H0
  refine Wp.icmp_ge 52 d_Tokens_next_8 (by decide) (fun c1 => ?_) (fun c1 => ?_)
  · have H4 := H2 c1
    exact H4
  · have H5 := H3 c1
    refine Wp.aload_n 0 0 d_Tokens_next_11 rfl rfl ?_
    obtain ⟨b6, n10, hb7, hB8, H9⟩ := H5
    refine Wp.getR b6 d_Tokens_next_12 fl_Tokens_13 rfl (Or.inl rfl) rfl hb7 ?_
    refine Wp.aload_n 0 0 d_Tokens_next_15 rfl rfl ?_
    refine Wq.getI 3 rfl d_Tokens_next_16 fl_Tokens_40 rfl (Or.inl rfl) ?_
    obtain ⟨s11, H12⟩ := H9
    refine Wp.iald d_Tokens_next_19 hB8 (Or.inl rfl) s11.1 s11.2 ?_
    refine Wp.bipush d_Tokens_next_20 (by decide) (by decide) ?_
    obtain ⟨H14, H15⟩ := H12
    refine Wp.icmp_eq 39 d_Tokens_next_22 (by decide) (fun c13 => ?_) (fun c13 => ?_)
    · have H16 := H14 c13
      refine Wp.aload_n 0 0 d_Tokens_next_39 rfl rfl ?_
      refine Wp.dup d_Tokens_next_40 rfl ?_
      refine Wq.getI 3 rfl d_Tokens_next_41 fl_Tokens_40 rfl (Or.inl rfl) ?_
      refine Wp.iconst d_Tokens_next_44 (by decide) ?_
      obtain ⟨s18, H19⟩ := H16
      refine Wp.iadd d_Tokens_next_45 s18 ?_
      refine Wq.putI 3 rfl d_Tokens_next_46 fl_Tokens_40 (fun _ _ _ h => by cases h; rfl) rfl rfl rfl (fun m20 hm21 => ?_)
      have H22 := H19 m20 hm21
      refine Wp.goto 0 d_Tokens_next_49 (by decide) ?_
      exact H22
    · have H17 := H15 c13
      refine Wp.aload_n 0 0 d_Tokens_next_25 rfl rfl ?_
      obtain ⟨b23, n27, hb24, hB25, H26⟩ := H17
      refine Wp.getR b23 d_Tokens_next_26 fl_Tokens_13 rfl (Or.inl rfl) rfl hb24 ?_
      refine Wp.aload_n 0 0 d_Tokens_next_29 rfl rfl ?_
      refine Wq.getI 3 rfl d_Tokens_next_30 fl_Tokens_40 rfl (Or.inl rfl) ?_
      obtain ⟨s28, H29⟩ := H26
      refine Wp.iald d_Tokens_next_33 hB25 (Or.inl rfl) s28.1 s28.2 ?_
      refine Wp.bipush d_Tokens_next_34 (by decide) (by decide) ?_
      obtain ⟨H31, H32⟩ := H29
      refine Wp.icmp_ne 52 d_Tokens_next_36 (by decide) (fun c30 => ?_) (fun c30 => ?_)
      · have H33 := H31 c30
        exact H33
      · have H34 := H32 c30
        refine Wp.aload_n 0 0 d_Tokens_next_39 rfl rfl ?_
        refine Wp.dup d_Tokens_next_40 rfl ?_
        refine Wq.getI 3 rfl d_Tokens_next_41 fl_Tokens_40 rfl (Or.inl rfl) ?_
        refine Wp.iconst d_Tokens_next_44 (by decide) ?_
        obtain ⟨s35, H36⟩ := H34
        refine Wp.iadd d_Tokens_next_45 s35 ?_
        refine Wq.putI 3 rfl d_Tokens_next_46 fl_Tokens_40 (fun _ _ _ h => by cases h; rfl) rfl rfl rfl (fun m37 hm38 => ?_)
        have H39 := H36 m37 hm38
        refine Wp.goto 0 d_Tokens_next_49 (by decide) ?_
        exact H39
theorem s_Tokens_next_52 {l : Launch} {G : GT} {d : Nat} {P : MM → Prop} {m : MM}   (H : wfM m → ∀ m1, m1 = up m 3 5 (m 3 3) → (∀ m4, m4 = up m1 3 6 0 → (((m4 3 3) < (m4 3 2) → (∃ b12 n16 : Nat, m4 3 1 = b12 ∧ q_lay b12 = .inr (0, n16) ∧ ((0 ≤ (m4 3 3) ∧ (m4 3 3) < (n16 : Int)) ∧ (∃ (e19 : Nat) (P20 : Int → MM → Prop), e19 < d ∧ CI l G Y_Tokens_isLetter e19 [.inl (m4 b12 (m4 3 3))] m4 P20 ∧ (∀ z25 m26, P20 z25 m26 → inR z25 → wfM m26 → ((z25 = 0 → (∃ b35 n39 : Nat, m26 3 1 = b35 ∧ q_lay b35 = .inr (0, n39) ∧ ((0 ≤ (m26 3 3) ∧ (m26 3 3) < (n39 : Int)) ∧ (∃ (e42 : Nat) (P43 : Int → MM → Prop), e42 < d ∧ CI l G Y_Tokens_isDigit e42 [.inl (m26 b35 (m26 3 3))] m26 P43 ∧ (∀ z48 m49, P43 z48 m49 → inR z48 → wfM m49 → ((z48 = 0 → (∃ b58 n62 : Nat, m49 3 1 = b58 ∧ q_lay b58 = .inr (0, n62) ∧ ((0 ≤ (m49 3 3) ∧ (m49 3 3) < (n62 : Int)) ∧ (∃ (e65 : Nat) (P66 : Int → MM → Prop), e65 < d ∧ CI l G Y_String_indexOf_I e65 [.inr (.inr (1001 + 1)), .inl (bI2c (m49 b58 (m49 3 3)))] m49 P66 ∧ (∀ z71 m72, P66 z71 m72 → inR z71 → wfM m72 → ((z71 < 0 → (∀ m81, m81 = up m72 3 4 1 → ((inR ((m81 3 3) + 1)) ∧ (∀ m86, m86 = up m81 3 3 ((m81 3 3) + 1) → (P m86))))) ∧ (¬ (z71 < 0) → (∃ b89 n93 : Nat, m72 3 1 = b89 ∧ q_lay b89 = .inr (0, n93) ∧ ((0 ≤ (m72 3 3) ∧ (m72 3 3) < (n93 : Int)) ∧ (∀ m96, m96 = up m72 3 4 (m72 b89 (m72 3 3)) → ((inR ((m96 3 3) + 1)) ∧ (∀ m101, m101 = up m96 3 3 ((m96 3 3) + 1) → (P m101))))))))))))) ∧ (¬ (z48 = 0) → (∃ (e104 : Nat) (P105 : MM → Prop), e104 < d ∧ CV l G Y_Tokens_readNumber e104 [.inr (.inr 3)] m49 P105 ∧ (∀ m111, P105 m111 → wfM m111 → (P m111)))))))))) ∧ (¬ (z25 = 0) → (∃ (e115 : Nat) (P116 : MM → Prop), e115 < d ∧ CV l G Y_Tokens_readWord e115 [.inr (.inr 3)] m26 P116 ∧ (∀ m122, P116 m122 → wfM m122 → (P m122)))))))))) ∧ (¬ ((m4 3 3) < (m4 3 2)) → (∀ m126, m126 = up m4 3 4 0 → (P m126)))))) : Wq l G false Y_Tokens_next d (QV P) 52 [(0, .inr (.inr 3))] [] m := by
  refine Wp.wf (fun hw _ hl hs => ?_)
  have H0 := H hw
  refine Wp.aload_n 0 0 d_Tokens_next_52 rfl rfl ?_
  refine Wp.aload_n 0 0 d_Tokens_next_53 rfl rfl ?_
  refine Wq.getI 3 rfl d_Tokens_next_54 fl_Tokens_40 rfl (Or.inl rfl) ?_
  refine Wq.putI 5 rfl d_Tokens_next_57 fl_Tokens_46 (fun _ _ _ h => by cases h; rfl) rfl rfl rfl (fun m1 hm2 => ?_)
  have H3 := H0 m1 hm2
  refine Wp.aload_n 0 0 d_Tokens_next_60 rfl rfl ?_
  refine Wp.lconst (x := 0) d_Tokens_next_61 (by decide) (by decide) ?_
  refine Wq.putL 6 rfl d_Tokens_next_62 fl_Tokens_49 (fun _ _ _ h => by cases h; rfl) rfl rfl rfl (fun m4 hm5 => ?_)
  have H6 := H3 m4 hm5
  refine Wp.aload_n 0 0 d_Tokens_next_65 rfl rfl ?_
  refine Wq.getI 3 rfl d_Tokens_next_66 fl_Tokens_40 rfl (Or.inl rfl) ?_
  refine Wp.aload_n 0 0 d_Tokens_next_69 rfl rfl ?_
  refine Wq.getI 2 rfl d_Tokens_next_70 fl_Tokens_37 rfl (Or.inl rfl) ?_
  obtain ⟨H8, H9⟩ := H6
  refine Wp.icmp_lt 84 d_Tokens_next_73 (by decide) (fun c7 => ?_) (fun c7 => ?_)
  · have H10 := H8 c7
    refine Wp.aload_n 0 0 d_Tokens_next_84 rfl rfl ?_
    obtain ⟨b12, n16, hb13, hB14, H15⟩ := H10
    refine Wp.getR b12 d_Tokens_next_85 fl_Tokens_13 rfl (Or.inl rfl) rfl hb13 ?_
    refine Wp.aload_n 0 0 d_Tokens_next_88 rfl rfl ?_
    refine Wq.getI 3 rfl d_Tokens_next_89 fl_Tokens_40 rfl (Or.inl rfl) ?_
    obtain ⟨s17, H18⟩ := H15
    refine Wp.iald d_Tokens_next_92 hB14 (Or.inl rfl) s17.1 s17.2 ?_
    obtain ⟨e19, P20, hd21, ho22, H23⟩ := H18
    refine Wq.SI (st := []) [.inl (m4 b12 (m4 3 3))] d_Tokens_next_93 k_Tokens_isLetter ml_Tokens_56 rfl  (fun h => by cases h) (Nat.le_of_ble_eq_true rfl) hd21 ho22 (fun z25 m26 hp27 hz28 hw29 => ?_)
    have H24 := H23 z25 m26 hp27 hz28 hw29
    obtain ⟨H31, H32⟩ := H24
    refine Wp.if_eq 106 d_Tokens_next_96 (by decide) (fun c30 => ?_) (fun c30 => ?_)
    · have H33 := H31 c30
      refine Wp.aload_n 0 0 d_Tokens_next_106 rfl rfl ?_
      obtain ⟨b35, n39, hb36, hB37, H38⟩ := H33
      refine Wp.getR b35 d_Tokens_next_107 fl_Tokens_13 rfl (Or.inl rfl) rfl hb36 ?_
      refine Wp.aload_n 0 0 d_Tokens_next_110 rfl rfl ?_
      refine Wq.getI 3 rfl d_Tokens_next_111 fl_Tokens_40 rfl (Or.inl rfl) ?_
      obtain ⟨s40, H41⟩ := H38
      refine Wp.iald d_Tokens_next_114 hB37 (Or.inl rfl) s40.1 s40.2 ?_
      obtain ⟨e42, P43, hd44, ho45, H46⟩ := H41
      refine Wq.SI (st := []) [.inl (m26 b35 (m26 3 3))] d_Tokens_next_115 k_Tokens_isDigit ml_Tokens_63 rfl  (fun h => by cases h) (Nat.le_of_ble_eq_true rfl) hd44 ho45 (fun z48 m49 hp50 hz51 hw52 => ?_)
      have H47 := H46 z48 m49 hp50 hz51 hw52
      obtain ⟨H54, H55⟩ := H47
      refine Wp.if_eq 128 d_Tokens_next_118 (by decide) (fun c53 => ?_) (fun c53 => ?_)
      · have H56 := H54 c53
        refine Wp.aload_n 0 0 d_Tokens_next_128 rfl rfl ?_
        refine Wp.ldcT (i := 1) d_Tokens_next_129 rfl (Or.inr ⟨rfl, rfl⟩) ?_
        refine Wp.aload_n 0 0 d_Tokens_next_131 rfl rfl ?_
        obtain ⟨b58, n62, hb59, hB60, H61⟩ := H56
        refine Wp.getR b58 d_Tokens_next_132 fl_Tokens_13 rfl (Or.inl rfl) rfl hb59 ?_
        refine Wp.aload_n 0 0 d_Tokens_next_135 rfl rfl ?_
        refine Wq.getI 3 rfl d_Tokens_next_136 fl_Tokens_40 rfl (Or.inl rfl) ?_
        obtain ⟨s63, H64⟩ := H61
        refine Wp.iald d_Tokens_next_139 hB60 (Or.inl rfl) s63.1 s63.2 ?_
        refine Wp.i2c d_Tokens_next_140 ?_
        obtain ⟨e65, P66, hd67, ho68, H69⟩ := H64
        refine Wq.TI (i := 1) (st := [.inr (.inr 3)]) [.inl (bI2c (m49 b58 (m49 3 3)))] d_Tokens_next_141 k_String_indexOf_I ml_Tokens_71 rfl (by decide) rfl (fun h => by cases h) (Nat.le_of_ble_eq_true rfl) hd67 ho68 (fun z71 m72 hp73 hz74 hw75 => ?_)
        have H70 := H69 z71 m72 hp73 hz74 hw75
        obtain ⟨H77, H78⟩ := H70
        refine Wp.if_lt 159 d_Tokens_next_144 (by decide) (fun c76 => ?_) (fun c76 => ?_)
        · have H79 := H77 c76
          refine Wp.iconst d_Tokens_next_159 (by decide) ?_
          refine Wq.putI 4 rfl d_Tokens_next_160 fl_Tokens_53 (fun _ _ _ h => by cases h; rfl) rfl rfl rfl (fun m81 hm82 => ?_)
          have H83 := H79 m81 hm82
          refine Wp.aload_n 0 0 d_Tokens_next_163 rfl rfl ?_
          refine Wp.dup d_Tokens_next_164 rfl ?_
          refine Wq.getI 3 rfl d_Tokens_next_165 fl_Tokens_40 rfl (Or.inl rfl) ?_
          refine Wp.iconst d_Tokens_next_168 (by decide) ?_
          obtain ⟨s84, H85⟩ := H83
          refine Wp.iadd d_Tokens_next_169 s84 ?_
          refine Wq.putI 3 rfl d_Tokens_next_170 fl_Tokens_40 (fun _ _ _ h => by cases h; rfl) rfl rfl rfl (fun m86 hm87 => ?_)
          have H88 := H85 m86 hm87
          exact Wq.vret d_Tokens_next_173 rfl H88
        · have H80 := H78 c76
          refine Wp.aload_n 0 0 d_Tokens_next_147 rfl rfl ?_
          obtain ⟨b89, n93, hb90, hB91, H92⟩ := H80
          refine Wp.getR b89 d_Tokens_next_148 fl_Tokens_13 rfl (Or.inl rfl) rfl hb90 ?_
          refine Wp.aload_n 0 0 d_Tokens_next_151 rfl rfl ?_
          refine Wq.getI 3 rfl d_Tokens_next_152 fl_Tokens_40 rfl (Or.inl rfl) ?_
          obtain ⟨s94, H95⟩ := H92
          refine Wp.iald d_Tokens_next_155 hB91 (Or.inl rfl) s94.1 s94.2 ?_
          refine Wp.goto 160 d_Tokens_next_156 (by decide) ?_
          refine Wq.putI 4 rfl d_Tokens_next_160 fl_Tokens_53 (fun _ _ _ h => by cases h; rfl) rfl rfl rfl (fun m96 hm97 => ?_)
          have H98 := H95 m96 hm97
          refine Wp.aload_n 0 0 d_Tokens_next_163 rfl rfl ?_
          refine Wp.dup d_Tokens_next_164 rfl ?_
          refine Wq.getI 3 rfl d_Tokens_next_165 fl_Tokens_40 rfl (Or.inl rfl) ?_
          refine Wp.iconst d_Tokens_next_168 (by decide) ?_
          obtain ⟨s99, H100⟩ := H98
          refine Wp.iadd d_Tokens_next_169 s99 ?_
          refine Wq.putI 3 rfl d_Tokens_next_170 fl_Tokens_40 (fun _ _ _ h => by cases h; rfl) rfl rfl rfl (fun m101 hm102 => ?_)
          have H103 := H100 m101 hm102
          exact Wq.vret d_Tokens_next_173 rfl H103
      · have H57 := H55 c53
        refine Wp.aload_n 0 0 d_Tokens_next_121 rfl rfl ?_
        obtain ⟨e104, P105, hd106, ho107, H108⟩ := H57
        refine Wq.VV (st := []) [] d_Tokens_next_122 k_Tokens_readNumber ml_Tokens_66 rfl rfl rfl (fun h => by cases h) (Nat.le_of_ble_eq_true rfl) hd106 ho107 (fun m111 hp112 hw114 => ?_)
        have H109 := H108 m111 hp112 hw114
        refine Wp.goto 173 d_Tokens_next_125 (by decide) ?_
        exact Wq.vret d_Tokens_next_173 rfl H109
    · have H34 := H32 c30
      refine Wp.aload_n 0 0 d_Tokens_next_99 rfl rfl ?_
      obtain ⟨e115, P116, hd117, ho118, H119⟩ := H34
      refine Wq.VV (st := []) [] d_Tokens_next_100 k_Tokens_readWord ml_Tokens_60 rfl rfl rfl (fun h => by cases h) (Nat.le_of_ble_eq_true rfl) hd117 ho118 (fun m122 hp123 hw125 => ?_)
      have H120 := H119 m122 hp123 hw125
      refine Wp.goto 173 d_Tokens_next_103 (by decide) ?_
      exact Wq.vret d_Tokens_next_173 rfl H120
  · have H11 := H9 c7
    refine Wp.aload_n 0 0 d_Tokens_next_76 rfl rfl ?_
    refine Wp.iconst d_Tokens_next_77 (by decide) ?_
    refine Wq.putI 4 rfl d_Tokens_next_78 fl_Tokens_53 (fun _ _ _ h => by cases h; rfl) rfl rfl rfl (fun m126 hm127 => ?_)
    have H128 := H11 m126 hm127
    refine Wp.goto 173 d_Tokens_next_81 (by decide) ?_
    exact Wq.vret d_Tokens_next_173 rfl H128
