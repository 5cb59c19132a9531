theorem d_String_coder_0 : decode Y_String_coder.2.1 0 = .ok (.getstatic 38, 3) := by decide +kernel
theorem d_String_coder_3 : decode Y_String_coder.2.1 3 = .ok (.ifCond .eq 10, 3) := by decide +kernel
theorem d_String_coder_6 : decode Y_String_coder.2.1 6 = .ok (.aload_n 0, 1) := by decide +kernel
theorem d_String_coder_7 : decode Y_String_coder.2.1 7 = .ok (.getfield 15, 3) := by decide +kernel
theorem d_String_coder_10 : decode Y_String_coder.2.1 10 = .ok (.goto 4, 3) := by decide +kernel
theorem d_String_coder_14 : decode Y_String_coder.2.1 14 = .ok (.ireturn, 1) := by decide +kernel
theorem e_String_coder {l : Launch} {G : GT} {d : Nat} {P : Int → MM → Prop} {m : MM}  (H : wfM m → P 0 m) : CI l G Y_String_coder d [.inr (.inr (1001 + 1))] m P := by
  refine CI.of [(0, .inr (.inr (1001 + 1)))] k_String_coder.1 (Nat.le_of_ble_eq_true rfl) rfl (Wp.wf (fun hw _ hl hs => ?_))
  have H0 := H hw
  refine Wp.gets1 d_String_coder_0 rfl ?_
  refine Wp.if_eq 13 d_String_coder_3 (by decide) (fun c => absurd c (by decide)) (fun _ => ?_)
  refine Wp.aload_n 0 0 d_String_coder_6 rfl rfl ?_
  refine Wp.getTc (i := 1) d_String_coder_7 rfl (by decide) ?_
  refine Wp.goto 14 d_String_coder_10 (by decide) ?_
  exact Wq.bret0 d_String_coder_14 rfl H0
theorem d_String_isLatin1_0 : decode Y_String_isLatin1.2.1 0 = .ok (.getstatic 38, 3) := by decide +kernel
theorem d_String_isLatin1_3 : decode Y_String_isLatin1.2.1 3 = .ok (.ifCond .eq 14, 3) := by decide +kernel
theorem d_String_isLatin1_6 : decode Y_String_isLatin1.2.1 6 = .ok (.aload_n 0, 1) := by decide +kernel
theorem d_String_isLatin1_7 : decode Y_String_isLatin1.2.1 7 = .ok (.getfield 15, 3) := by decide +kernel
theorem d_String_isLatin1_10 : decode Y_String_isLatin1.2.1 10 = .ok (.ifCond .ne 7, 3) := by decide +kernel
theorem d_String_isLatin1_13 : decode Y_String_isLatin1.2.1 13 = .ok (.iconst 1, 1) := by decide +kernel
theorem d_String_isLatin1_14 : decode Y_String_isLatin1.2.1 14 = .ok (.goto 4, 3) := by decide +kernel
theorem d_String_isLatin1_18 : decode Y_String_isLatin1.2.1 18 = .ok (.ireturn, 1) := by decide +kernel
theorem e_String_isLatin1 {l : Launch} {G : GT} {d : Nat} {P : Int → MM → Prop} {m : MM}  (H : wfM m → P 1 m) : CI l G Y_String_isLatin1 d [.inr (.inr (1001 + 1))] m P := by
  refine CI.of [(0, .inr (.inr (1001 + 1)))] k_String_isLatin1.1 (Nat.le_of_ble_eq_true rfl) rfl (Wp.wf (fun hw _ hl hs => ?_))
  have H0 := H hw
  refine Wp.gets1 d_String_isLatin1_0 rfl ?_
  refine Wp.if_eq 17 d_String_isLatin1_3 (by decide) (fun c => absurd c (by decide)) (fun _ => ?_)
  refine Wp.aload_n 0 0 d_String_isLatin1_6 rfl rfl ?_
  refine Wp.getTc (i := 1) d_String_isLatin1_7 rfl (by decide) ?_
  refine Wp.if_ne 17 d_String_isLatin1_10 (by decide) (fun c => absurd c (by decide)) (fun _ => ?_)
  refine Wp.iconst d_String_isLatin1_13 (by decide) ?_
  refine Wp.goto 18 d_String_isLatin1_14 (by decide) ?_
  exact Wq.zret d_String_isLatin1_18 rfl (by decide) H0
theorem d_String_length_0 : decode Y_String_length.2.1 0 = .ok (.aload_n 0, 1) := by decide +kernel
theorem d_String_length_1 : decode Y_String_length.2.1 1 = .ok (.getfield 9, 3) := by decide +kernel
theorem d_String_length_4 : decode Y_String_length.2.1 4 = .ok (.arraylength, 1) := by decide +kernel
theorem d_String_length_5 : decode Y_String_length.2.1 5 = .ok (.aload_n 0, 1) := by decide +kernel
theorem d_String_length_6 : decode Y_String_length.2.1 6 = .ok (.invokevirtual 335, 3) := by decide +kernel
theorem d_String_length_9 : decode Y_String_length.2.1 9 = .ok (.ishr, 1) := by decide +kernel
theorem d_String_length_10 : decode Y_String_length.2.1 10 = .ok (.ireturn, 1) := by decide +kernel
theorem e_String_length {l : Launch} {G : GT} {d : Nat} {P : Int → MM → Prop} {m : MM} (hG : GVok G)  (H : wfM m → ∃ (e1 : Nat) (P2 : Int → MM → Prop), e1 < d ∧ CI l G Y_String_coder e1 [.inr (.inr (1001 + 1))] m P2 ∧ (∀ z7 m8, P2 z7 m8 → inR z7 → wfM m8 → (P (bShr 11 z7) m8))) : CI l G Y_String_length d [.inr (.inr (1001 + 1))] m P := by
  refine CI.of [(0, .inr (.inr (1001 + 1)))] k_String_length.1 (Nat.le_of_ble_eq_true rfl) rfl (Wp.wf (fun hw _ hl hs => ?_))
  have H0 := H hw
  refine Wp.aload_n 0 0 d_String_length_0 rfl rfl ?_
  refine Wp.getTv (i := 1) hG d_String_length_1 rfl (by decide) ?_
  refine Wp.tlen1 hG d_String_length_4 ?_
  refine Wp.aload_n 0 0 d_String_length_5 rfl rfl ?_
  obtain ⟨e1, P2, hd3, ho4, H5⟩ := H0
  refine Wq.TI (i := 1) (st := [.inl 11]) [] d_String_length_6 k_String_coder ml_String_335 rfl (by decide) rfl (fun h => by cases h) (Nat.le_of_ble_eq_true rfl) hd3 ho4 (fun z7 m8 hp9 hz10 hw11 => ?_)
  have H6 := H5 z7 m8 hp9 hz10 hw11
  refine Wp.ishr d_String_length_9 ?_
  exact Wq.iret d_String_length_10 rfl H6
theorem d_StringLatin1_canEncode_0 : decode Y_StringLatin1_canEncode.2.1 0 = .ok (.iload_n 0, 1) := by decide +kernel
theorem d_StringLatin1_canEncode_1 : decode Y_StringLatin1_canEncode.2.1 1 = .ok (.ifCond .lt 14, 3) := by decide +kernel
theorem d_StringLatin1_canEncode_4 : decode Y_StringLatin1_canEncode.2.1 4 = .ok (.iload_n 0, 1) := by decide +kernel
theorem d_StringLatin1_canEncode_5 : decode Y_StringLatin1_canEncode.2.1 5 = .ok (.sipush 255, 3) := by decide +kernel
theorem d_StringLatin1_canEncode_8 : decode Y_StringLatin1_canEncode.2.1 8 = .ok (.if_icmp .gt 7, 3) := by decide +kernel
theorem d_StringLatin1_canEncode_11 : decode Y_StringLatin1_canEncode.2.1 11 = .ok (.iconst 1, 1) := by decide +kernel
theorem d_StringLatin1_canEncode_12 : decode Y_StringLatin1_canEncode.2.1 12 = .ok (.goto 4, 3) := by decide +kernel
theorem d_StringLatin1_canEncode_15 : decode Y_StringLatin1_canEncode.2.1 15 = .ok (.iconst 0, 1) := by decide +kernel
theorem d_StringLatin1_canEncode_16 : decode Y_StringLatin1_canEncode.2.1 16 = .ok (.ireturn, 1) := by decide +kernel
theorem e_StringLatin1_canEncode {l : Launch} {G : GT} {d : Nat} {P : Int → MM → Prop} {m : MM} (x0 : Int)  (H : wfM m → inR x0 → (x0 < 0 → (P 0 m)) ∧ (¬ (x0 < 0) → ((x0 > 255 → (P 0 m)) ∧ (¬ (x0 > 255) → (P 1 m))))) : CI l G Y_StringLatin1_canEncode d [.inl x0] m P := by
  refine CI.of [(0, .inl x0)] k_StringLatin1_canEncode.1 (Nat.le_of_ble_eq_true rfl) rfl (Wp.wf (fun hw _ hl hs => ?_))
  have H0 := H hw (hl _ (List.mem_of_getElem? (i := 0) rfl))
  refine Wp.iload_n 0 0 d_StringLatin1_canEncode_0 rfl rfl ?_
  obtain ⟨H2, H3⟩ := H0
  refine Wp.if_lt 15 d_StringLatin1_canEncode_1 (by decide) (fun c1 => ?_) (fun c1 => ?_)
  · have H4 := H2 c1
    refine Wp.iconst d_StringLatin1_canEncode_15 (by decide) ?_
    exact Wq.zret d_StringLatin1_canEncode_16 rfl (by decide) H4
  · have H5 := H3 c1
    refine Wp.iload_n 0 0 d_StringLatin1_canEncode_4 rfl rfl ?_
    refine Wp.sipush d_StringLatin1_canEncode_5 (by decide) (by decide) ?_
    obtain ⟨H7, H8⟩ := H5
    refine Wp.icmp_gt 15 d_StringLatin1_canEncode_8 (by decide) (fun c6 => ?_) (fun c6 => ?_)
    · have H9 := H7 c6
      refine Wp.iconst d_StringLatin1_canEncode_15 (by decide) ?_
      exact Wq.zret d_StringLatin1_canEncode_16 rfl (by decide) H9
    · have H10 := H8 c6
      refine Wp.iconst d_StringLatin1_canEncode_11 (by decide) ?_
      refine Wp.goto 16 d_StringLatin1_canEncode_12 (by decide) ?_
      exact Wq.zret d_StringLatin1_canEncode_16 rfl (by decide) H10
theorem d_StringLatin1_indexOfChar_0 : decode Y_StringLatin1_indexOfChar.2.1 0 = .ok (.iload_n 1, 1) := by decide +kernel
theorem d_StringLatin1_indexOfChar_1 : decode Y_StringLatin1_indexOfChar.2.1 1 = .ok (.i2b, 1) := by decide +kernel
theorem d_StringLatin1_indexOfChar_2 : decode Y_StringLatin1_indexOfChar.2.1 2 = .ok (.istore 4, 2) := by decide +kernel
theorem d_StringLatin1_indexOfChar_4 : decode Y_StringLatin1_indexOfChar.2.1 4 = .ok (.iload_n 2, 1) := by decide +kernel
theorem d_StringLatin1_indexOfChar_5 : decode Y_StringLatin1_indexOfChar.2.1 5 = .ok (.istore 5, 2) := by decide +kernel
theorem d_StringLatin1_indexOfChar_7 : decode Y_StringLatin1_indexOfChar.2.1 7 = .ok (.iload 5, 2) := by decide +kernel
theorem d_StringLatin1_indexOfChar_9 : decode Y_StringLatin1_indexOfChar.2.1 9 = .ok (.iload_n 3, 1) := by decide +kernel
theorem d_StringLatin1_indexOfChar_10 : decode Y_StringLatin1_indexOfChar.2.1 10 = .ok (.if_icmp .ge 21, 3) := by decide +kernel
theorem d_StringLatin1_indexOfChar_13 : decode Y_StringLatin1_indexOfChar.2.1 13 = .ok (.aload_n 0, 1) := by decide +kernel
theorem d_StringLatin1_indexOfChar_14 : decode Y_StringLatin1_indexOfChar.2.1 14 = .ok (.iload 5, 2) := by decide +kernel
theorem d_StringLatin1_indexOfChar_16 : decode Y_StringLatin1_indexOfChar.2.1 16 = .ok (.baload, 1) := by decide +kernel
theorem d_StringLatin1_indexOfChar_17 : decode Y_StringLatin1_indexOfChar.2.1 17 = .ok (.iload 4, 2) := by decide +kernel
theorem d_StringLatin1_indexOfChar_19 : decode Y_StringLatin1_indexOfChar.2.1 19 = .ok (.if_icmp .ne 6, 3) := by decide +kernel
theorem d_StringLatin1_indexOfChar_22 : decode Y_StringLatin1_indexOfChar.2.1 22 = .ok (.iload 5, 2) := by decide +kernel
theorem d_StringLatin1_indexOfChar_24 : decode Y_StringLatin1_indexOfChar.2.1 24 = .ok (.ireturn, 1) := by decide +kernel
theorem d_StringLatin1_indexOfChar_25 : decode Y_StringLatin1_indexOfChar.2.1 25 = .ok (.iinc 5 1, 3) := by decide +kernel
theorem d_StringLatin1_indexOfChar_28 : decode Y_StringLatin1_indexOfChar.2.1 28 = .ok (.goto (-21), 3) := by decide +kernel
theorem d_StringLatin1_indexOfChar_31 : decode Y_StringLatin1_indexOfChar.2.1 31 = .ok (.iconst (-1), 1) := by decide +kernel
theorem d_StringLatin1_indexOfChar_32 : decode Y_StringLatin1_indexOfChar.2.1 32 = .ok (.ireturn, 1) := by decide +kernel
theorem e_StringLatin1_indexOfChar {l : Launch} {G : GT} {d : Nat} {P : Int → MM → Prop} {m : MM} (x1 : Int) (x2 : Int) (x3 : Int) (H : wfM m → inR x1 → inR x2 → inR x3 → Wq l G false Y_StringLatin1_indexOfChar d (QI P) 7 [(0, .inr (.inr (1003 + 1))), (3, .inl x3), (4, .inl (bI2b x1)), (5, .inl x2)] [] m) : CI l G Y_StringLatin1_indexOfChar d [.inr (.inr (1003 + 1)), .inl x1, .inl x2, .inl x3] m P := by
  refine CI.of [(0, .inr (.inr (1003 + 1))), (1, .inl x1), (2, .inl x2), (3, .inl x3)] k_StringLatin1_indexOfChar.1 (Nat.le_of_ble_eq_true rfl) rfl (Wp.wf (fun hw _ hl hs => ?_))
  have H0 := H hw (hl _ (List.mem_of_getElem? (i := 1) rfl)) (hl _ (List.mem_of_getElem? (i := 2) rfl)) (hl _ (List.mem_of_getElem? (i := 3) rfl))
  refine Wp.iload_n 1 1 d_StringLatin1_indexOfChar_0 rfl rfl ?_
  refine Wp.i2b d_StringLatin1_indexOfChar_1 ?_
  refine Wp.istore 4 [(0, .inr (.inr (1003 + 1))), (1, .inl x1), (2, .inl x2), (3, .inl x3), (4, .inl (bI2b x1))] d_StringLatin1_indexOfChar_2 (by decide) rfl ?_
  refine Wp.iload_n 2 2 d_StringLatin1_indexOfChar_4 rfl rfl ?_
  refine Wp.istore 5 [(0, .inr (.inr (1003 + 1))), (1, .inl x1), (2, .inl x2), (3, .inl x3), (4, .inl (bI2b x1)), (5, .inl x2)] d_StringLatin1_indexOfChar_5 (by decide) rfl ?_
  refine Wp.pick [0, 3, 4, 5] [(0, .inr (.inr (1003 + 1))), (3, .inl x3), (4, .inl (bI2b x1)), (5, .inl x2)] rfl ?_
  exact H0
theorem s_StringLatin1_indexOfChar_7 {l : Launch} {G : GT} {d : Nat} {P : Int → MM → Prop} {m : MM} (hG : GVok G) (x3 : Int) (x4 : Int) (x5 : Int) (H : wfM m → inR x3 → inR x4 → inR x5 → (x5 ≥ x3 → (P (-1) m)) ∧ (¬ (x5 ≥ x3) → ((0 ≤ x5 ∧ x5 < (11 : Int)) ∧ (((tB 1 x5) ≠ x4 → ((inR (x5 + 1)) ∧ (Wq l G false Y_StringLatin1_indexOfChar d (QI P) 7 [(0, .inr (.inr (1003 + 1))), (3, .inl x3), (4, .inl x4), (5, .inl (x5 + 1))] [] m))) ∧ (¬ ((tB 1 x5) ≠ x4) → (P x5 m)))))) : Wq l G false Y_StringLatin1_indexOfChar d (QI P) 7 [(0, .inr (.inr (1003 + 1))), (3, .inl x3), (4, .inl x4), (5, .inl x5)] [] m := by
  refine Wp.wf (fun hw _ hl hs => ?_)
  have H0 := H hw (hl _ (List.mem_of_getElem? (i := 1) rfl)) (hl _ (List.mem_of_getElem? (i := 2) rfl)) (hl _ (List.mem_of_getElem? (i := 3) rfl))
  refine Wp.iload 3 5 d_StringLatin1_indexOfChar_7 rfl ?_
  refine Wp.iload_n 1 3 d_StringLatin1_indexOfChar_9 rfl rfl ?_
  obtain ⟨H2, H3⟩ := H0
  refine Wp.icmp_ge 31 d_StringLatin1_indexOfChar_10 (by decide) (fun c1 => ?_) (fun c1 => ?_)
  · have H4 := H2 c1
    refine Wp.iconst d_StringLatin1_indexOfChar_31 (by decide) ?_
    exact Wq.iret d_StringLatin1_indexOfChar_32 rfl H4
  · have H5 := H3 c1
    refine Wp.aload_n 0 0 d_StringLatin1_indexOfChar_13 rfl rfl ?_
    refine Wp.iload 3 5 d_StringLatin1_indexOfChar_14 rfl ?_
    obtain ⟨s6, H7⟩ := H5
    refine Wp.tald1 hG d_StringLatin1_indexOfChar_16 s6.1 s6.2 ?_
    refine Wp.iload 2 4 d_StringLatin1_indexOfChar_17 rfl ?_
    obtain ⟨H9, H10⟩ := H7
    refine Wp.icmp_ne 25 d_StringLatin1_indexOfChar_19 (by decide) (fun c8 => ?_) (fun c8 => ?_)
    · have H11 := H9 c8
      obtain ⟨s13, H14⟩ := H11
      refine Wp.iinc 3 5 [(0, .inr (.inr (1003 + 1))), (3, .inl x3), (4, .inl x4), (5, .inl (x5 + 1))] d_StringLatin1_indexOfChar_25 rfl s13 (by decide) rfl ?_
      refine Wp.goto 7 d_StringLatin1_indexOfChar_28 (by decide) ?_
      exact H14
    · have H12 := H10 c8
      refine Wp.iload 3 5 d_StringLatin1_indexOfChar_22 rfl ?_
      exact Wq.iret d_StringLatin1_indexOfChar_24 rfl H12
theorem d_StringLatin1_indexOf_0 : decode Y_StringLatin1_indexOf.2.1 0 = .ok (.iload_n 1, 1) := by decide +kernel
theorem d_StringLatin1_indexOf_1 : decode Y_StringLatin1_indexOf.2.1 1 = .ok (.invokestatic 88, 3) := by decide +kernel
theorem d_StringLatin1_indexOf_4 : decode Y_StringLatin1_indexOf.2.1 4 = .ok (.ifCond .ne 5, 3) := by decide +kernel
theorem d_StringLatin1_indexOf_7 : decode Y_StringLatin1_indexOf.2.1 7 = .ok (.iconst (-1), 1) := by decide +kernel
theorem d_StringLatin1_indexOf_8 : decode Y_StringLatin1_indexOf.2.1 8 = .ok (.ireturn, 1) := by decide +kernel
theorem d_StringLatin1_indexOf_9 : decode Y_StringLatin1_indexOf.2.1 9 = .ok (.iload_n 2, 1) := by decide +kernel
theorem d_StringLatin1_indexOf_10 : decode Y_StringLatin1_indexOf.2.1 10 = .ok (.iconst 0, 1) := by decide +kernel
theorem d_StringLatin1_indexOf_11 : decode Y_StringLatin1_indexOf.2.1 11 = .ok (.invokestatic 92, 3) := by decide +kernel
theorem d_StringLatin1_indexOf_14 : decode Y_StringLatin1_indexOf.2.1 14 = .ok (.istore_n 2, 1) := by decide +kernel
theorem d_StringLatin1_indexOf_15 : decode Y_StringLatin1_indexOf.2.1 15 = .ok (.iload_n 3, 1) := by decide +kernel
theorem d_StringLatin1_indexOf_16 : decode Y_StringLatin1_indexOf.2.1 16 = .ok (.aload_n 0, 1) := by decide +kernel
theorem d_StringLatin1_indexOf_17 : decode Y_StringLatin1_indexOf.2.1 17 = .ok (.arraylength, 1) := by decide +kernel
theorem d_StringLatin1_indexOf_18 : decode Y_StringLatin1_indexOf.2.1 18 = .ok (.invokestatic 38, 3) := by decide +kernel
theorem d_StringLatin1_indexOf_21 : decode Y_StringLatin1_indexOf.2.1 21 = .ok (.istore_n 3, 1) := by decide +kernel
theorem d_StringLatin1_indexOf_22 : decode Y_StringLatin1_indexOf.2.1 22 = .ok (.iload_n 2, 1) := by decide +kernel
theorem d_StringLatin1_indexOf_23 : decode Y_StringLatin1_indexOf.2.1 23 = .ok (.iload_n 3, 1) := by decide +kernel
theorem d_StringLatin1_indexOf_24 : decode Y_StringLatin1_indexOf.2.1 24 = .ok (.if_icmp .lt 5, 3) := by decide +kernel
theorem d_StringLatin1_indexOf_27 : decode Y_StringLatin1_indexOf.2.1 27 = .ok (.iconst (-1), 1) := by decide +kernel
theorem d_StringLatin1_indexOf_28 : decode Y_StringLatin1_indexOf.2.1 28 = .ok (.ireturn, 1) := by decide +kernel
theorem d_StringLatin1_indexOf_29 : decode Y_StringLatin1_indexOf.2.1 29 = .ok (.aload_n 0, 1) := by decide +kernel
theorem d_StringLatin1_indexOf_30 : decode Y_StringLatin1_indexOf.2.1 30 = .ok (.iload_n 1, 1) := by decide +kernel
theorem d_StringLatin1_indexOf_31 : decode Y_StringLatin1_indexOf.2.1 31 = .ok (.iload_n 2, 1) := by decide +kernel
theorem d_StringLatin1_indexOf_32 : decode Y_StringLatin1_indexOf.2.1 32 = .ok (.iload_n 3, 1) := by decide +kernel
theorem d_StringLatin1_indexOf_33 : decode Y_StringLatin1_indexOf.2.1 33 = .ok (.invokestatic 95, 3) := by decide +kernel
theorem d_StringLatin1_indexOf_36 : decode Y_StringLatin1_indexOf.2.1 36 = .ok (.ireturn, 1) := by decide +kernel
theorem e_StringLatin1_indexOf {l : Launch} {G : GT} {d : Nat} {P : Int → MM → Prop} {m : MM} (hG : GVok G) (x1 : Int) (x2 : Int) (x3 : Int) (hd1 : 1 ≤ d) (H : wfM m → inR x1 → inR x2 → inR x3 → ∃ (e1 : Nat) (P2 : Int → MM → Prop), e1 < d ∧ CI l G Y_StringLatin1_canEncode e1 [.inl x1] m P2 ∧ (∀ z7 m8, P2 z7 m8 → inR z7 → wfM m8 → ((z7 ≠ 0 → (((max x2 0) < (min x3 11) → (∃ (e22 : Nat) (P23 : Int → MM → Prop), e22 < d ∧ CI l G Y_StringLatin1_indexOfChar e22 [.inr (.inr (1003 + 1)), .inl x1, .inl (max x2 0), .inl (min x3 11)] m8 P23 ∧ (∀ z28 m29, P23 z28 m29 → inR z28 → wfM m29 → (P z28 m29)))) ∧ (¬ ((max x2 0) < (min x3 11)) → (P (-1) m8)))) ∧ (¬ (z7 ≠ 0) → (P (-1) m8))))) : CI l G Y_StringLatin1_indexOf d [.inr (.inr (1003 + 1)), .inl x1, .inl x2, .inl x3] m P := by
  refine CI.of [(0, .inr (.inr (1003 + 1))), (1, .inl x1), (2, .inl x2), (3, .inl x3)] k_StringLatin1_indexOf.1 (Nat.le_of_ble_eq_true rfl) rfl (Wp.wf (fun hw _ hl hs => ?_))
  have H0 := H hw (hl _ (List.mem_of_getElem? (i := 1) rfl)) (hl _ (List.mem_of_getElem? (i := 2) rfl)) (hl _ (List.mem_of_getElem? (i := 3) rfl))
  refine Wp.iload_n 1 1 d_StringLatin1_indexOf_0 rfl rfl ?_
  obtain ⟨e1, P2, hd3, ho4, H5⟩ := H0
  refine Wq.SI (st := []) [.inl x1] d_StringLatin1_indexOf_1 k_StringLatin1_canEncode ml_StringLatin1_88 rfl  (fun h => by cases h) (Nat.le_of_ble_eq_true rfl) hd3 ho4 (fun z7 m8 hp9 hz10 hw11 => ?_)
  have H6 := H5 z7 m8 hp9 hz10 hw11
  obtain ⟨H13, H14⟩ := H6
  refine Wp.if_ne 9 d_StringLatin1_indexOf_4 (by decide) (fun c12 => ?_) (fun c12 => ?_)
  · have H15 := H13 c12
    refine Wp.iload_n 2 2 d_StringLatin1_indexOf_9 rfl rfl ?_
    refine Wp.iconst d_StringLatin1_indexOf_10 (by decide) ?_
    refine Wp.mmax d_StringLatin1_indexOf_11 ml_StringLatin1_92 k_mmax hd1 (Nat.le_of_ble_eq_true rfl) ?_
    refine Wp.istore_n 2 [(0, .inr (.inr (1003 + 1))), (1, .inl x1), (2, .inl (max x2 0)), (3, .inl x3)] d_StringLatin1_indexOf_14 rfl (by decide) rfl ?_
    refine Wp.iload_n 3 3 d_StringLatin1_indexOf_15 rfl rfl ?_
    refine Wp.aload_n 0 0 d_StringLatin1_indexOf_16 rfl rfl ?_
    refine Wp.tlen1 hG d_StringLatin1_indexOf_17 ?_
    refine Wp.mmin d_StringLatin1_indexOf_18 ml_StringLatin1_38 k_mmin hd1 (Nat.le_of_ble_eq_true rfl) ?_
    refine Wp.istore_n 3 [(0, .inr (.inr (1003 + 1))), (1, .inl x1), (2, .inl (max x2 0)), (3, .inl (min x3 11))] d_StringLatin1_indexOf_21 rfl (by decide) rfl ?_
    refine Wp.iload_n 2 2 d_StringLatin1_indexOf_22 rfl rfl ?_
    refine Wp.iload_n 3 3 d_StringLatin1_indexOf_23 rfl rfl ?_
    obtain ⟨H18, H19⟩ := H15
    refine Wp.icmp_lt 29 d_StringLatin1_indexOf_24 (by decide) (fun c17 => ?_) (fun c17 => ?_)
    · have H20 := H18 c17
      refine Wp.aload_n 0 0 d_StringLatin1_indexOf_29 rfl rfl ?_
      refine Wp.iload_n 1 1 d_StringLatin1_indexOf_30 rfl rfl ?_
      refine Wp.iload_n 2 2 d_StringLatin1_indexOf_31 rfl rfl ?_
      refine Wp.iload_n 3 3 d_StringLatin1_indexOf_32 rfl rfl ?_
      obtain ⟨e22, P23, hd24, ho25, H26⟩ := H20
      refine Wq.SI (st := []) [.inr (.inr (1003 + 1)), .inl x1, .inl (max x2 0), .inl (min x3 11)] d_StringLatin1_indexOf_33 k_StringLatin1_indexOfChar ml_StringLatin1_95 rfl  (fun h => by cases h) (Nat.le_of_ble_eq_true rfl) hd24 ho25 (fun z28 m29 hp30 hz31 hw32 => ?_)
      have H27 := H26 z28 m29 hp30 hz31 hw32
      exact Wq.iret d_StringLatin1_indexOf_36 rfl H27
    · have H21 := H19 c17
      refine Wp.iconst d_StringLatin1_indexOf_27 (by decide) ?_
      exact Wq.iret d_StringLatin1_indexOf_28 rfl H21
  · have H16 := H14 c12
    refine Wp.iconst d_StringLatin1_indexOf_7 (by decide) ?_
    exact Wq.iret d_StringLatin1_indexOf_8 rfl H16
theorem d_String_indexOf_II_0 : decode Y_String_indexOf_II.2.1 0 = .ok (.aload_n 0, 1) := by decide +kernel
theorem d_String_indexOf_II_1 : decode Y_String_indexOf_II.2.1 1 = .ok (.invokevirtual 492, 3) := by decide +kernel
theorem d_String_indexOf_II_4 : decode Y_String_indexOf_II.2.1 4 = .ok (.ifCond .eq 19, 3) := by decide +kernel
theorem d_String_indexOf_II_7 : decode Y_String_indexOf_II.2.1 7 = .ok (.aload_n 0, 1) := by decide +kernel
theorem d_String_indexOf_II_8 : decode Y_String_indexOf_II.2.1 8 = .ok (.getfield 9, 3) := by decide +kernel
theorem d_String_indexOf_II_11 : decode Y_String_indexOf_II.2.1 11 = .ok (.iload_n 1, 1) := by decide +kernel
theorem d_String_indexOf_II_12 : decode Y_String_indexOf_II.2.1 12 = .ok (.iload_n 2, 1) := by decide +kernel
theorem d_String_indexOf_II_13 : decode Y_String_indexOf_II.2.1 13 = .ok (.aload_n 0, 1) := by decide +kernel
theorem d_String_indexOf_II_14 : decode Y_String_indexOf_II.2.1 14 = .ok (.invokevirtual 505, 3) := by decide +kernel
theorem d_String_indexOf_II_17 : decode Y_String_indexOf_II.2.1 17 = .ok (.invokestatic 637, 3) := by decide +kernel
theorem d_String_indexOf_II_20 : decode Y_String_indexOf_II.2.1 20 = .ok (.goto 16, 3) := by decide +kernel
theorem d_String_indexOf_II_36 : decode Y_String_indexOf_II.2.1 36 = .ok (.ireturn, 1) := by decide +kernel
theorem e_String_indexOf_II {l : Launch} {G : GT} {d : Nat} {P : Int → MM → Prop} {m : MM} (hG : GVok G) (x1 : Int) (x2 : Int) (hd1 : 1 ≤ d) (H : wfM m → inR x1 → inR x2 → ∃ (e4 : Nat) (P5 : Int → MM → Prop), e4 < d ∧ CI l G Y_String_length e4 [.inr (.inr (1001 + 1))] m P5 ∧ (∀ z10 m11, P5 z10 m11 → inR z10 → wfM m11 → (∃ (e15 : Nat) (P16 : Int → MM → Prop), e15 < d ∧ CI l G Y_StringLatin1_indexOf e15 [.inr (.inr (1003 + 1)), .inl x1, .inl x2, .inl z10] m11 P16 ∧ (∀ z21 m22, P16 z21 m22 → inR z21 → wfM m22 → (P z21 m22))))) : CI l G Y_String_indexOf_II d [.inr (.inr (1001 + 1)), .inl x1, .inl x2] m P := by
  refine CI.of [(0, .inr (.inr (1001 + 1))), (1, .inl x1), (2, .inl x2)] k_String_indexOf_II.1 (Nat.le_of_ble_eq_true rfl) rfl (Wp.wf (fun hw _ hl hs => ?_))
  have H0 := H hw (hl _ (List.mem_of_getElem? (i := 1) rfl)) (hl _ (List.mem_of_getElem? (i := 2) rfl))
  refine Wp.aload_n 0 0 d_String_indexOf_II_0 rfl rfl ?_
  refine Wq.TI (i := 1) (st := []) [] d_String_indexOf_II_1 k_String_isLatin1 ml_String_492 rfl (by decide) rfl (fun h => by cases h) (Nat.le_of_ble_eq_true rfl) (d2 := 0) hd1 (e_String_isLatin1 (P := fun z m9 => z = 1 ∧ m = m9) (fun _ => ⟨rfl, rfl⟩)) (fun z1 m2 hp3 _ _ => ?_)
  obtain ⟨rfl, rfl⟩ := hp3
  refine Wp.if_eq 23 d_String_indexOf_II_4 (by decide) (fun c => absurd c (by decide)) (fun _ => ?_)
  refine Wp.aload_n 0 0 d_String_indexOf_II_7 rfl rfl ?_
  refine Wp.getTv (i := 1) hG d_String_indexOf_II_8 rfl (by decide) ?_
  refine Wp.iload_n 1 1 d_String_indexOf_II_11 rfl rfl ?_
  refine Wp.iload_n 2 2 d_String_indexOf_II_12 rfl rfl ?_
  refine Wp.aload_n 0 0 d_String_indexOf_II_13 rfl rfl ?_
  obtain ⟨e4, P5, hd6, ho7, H8⟩ := H0
  refine Wq.TI (i := 1) (st := [.inl x2, .inl x1, .inr (.inr (1003 + 1))]) [] d_String_indexOf_II_14 k_String_length ml_String_505 rfl (by decide) rfl (fun h => by cases h) (Nat.le_of_ble_eq_true rfl) hd6 ho7 (fun z10 m11 hp12 hz13 hw14 => ?_)
  have H9 := H8 z10 m11 hp12 hz13 hw14
  obtain ⟨e15, P16, hd17, ho18, H19⟩ := H9
  refine Wq.SI (st := []) [.inr (.inr (1003 + 1)), .inl x1, .inl x2, .inl z10] d_String_indexOf_II_17 k_StringLatin1_indexOf ml_String_637 rfl  (fun h => by cases h) (Nat.le_of_ble_eq_true rfl) hd17 ho18 (fun z21 m22 hp23 hz24 hw25 => ?_)
  have H20 := H19 z21 m22 hp23 hz24 hw25
  refine Wp.goto 36 d_String_indexOf_II_20 (by decide) ?_
  exact Wq.iret d_String_indexOf_II_36 rfl H20
theorem d_String_indexOf_I_0 : decode Y_String_indexOf_I.2.1 0 = .ok (.aload_n 0, 1) := by decide +kernel
theorem d_String_indexOf_I_1 : decode Y_String_indexOf_I.2.1 1 = .ok (.iload_n 1, 1) := by decide +kernel
theorem d_String_indexOf_I_2 : decode Y_String_indexOf_I.2.1 2 = .ok (.iconst 0, 1) := by decide +kernel
theorem d_String_indexOf_I_3 : decode Y_String_indexOf_I.2.1 3 = .ok (.invokevirtual 633, 3) := by decide +kernel
theorem d_String_indexOf_I_6 : decode Y_String_indexOf_I.2.1 6 = .ok (.ireturn, 1) := by decide +kernel
theorem e_String_indexOf_I {l : Launch} {G : GT} {d : Nat} {P : Int → MM → Prop} {m : MM} (x1 : Int) (H : wfM m → inR x1 → ∃ (e1 : Nat) (P2 : Int → MM → Prop), e1 < d ∧ CI l G Y_String_indexOf_II e1 [.inr (.inr (1001 + 1)), .inl x1, .inl 0] m P2 ∧ (∀ z7 m8, P2 z7 m8 → inR z7 → wfM m8 → (P z7 m8))) : CI l G Y_String_indexOf_I d [.inr (.inr (1001 + 1)), .inl x1] m P := by
  refine CI.of [(0, .inr (.inr (1001 + 1))), (1, .inl x1)] k_String_indexOf_I.1 (Nat.le_of_ble_eq_true rfl) rfl (Wp.wf (fun hw _ hl hs => ?_))
  have H0 := H hw (hl _ (List.mem_of_getElem? (i := 1) rfl))
  refine Wp.aload_n 0 0 d_String_indexOf_I_0 rfl rfl ?_
  refine Wp.iload_n 1 1 d_String_indexOf_I_1 rfl rfl ?_
  refine Wp.iconst d_String_indexOf_I_2 (by decide) ?_
  obtain ⟨e1, P2, hd3, ho4, H5⟩ := H0
  refine Wq.TI (i := 1) (st := []) [.inl x1, .inl 0] d_String_indexOf_I_3 k_String_indexOf_II ml_String_633 rfl (by decide) rfl (fun h => by cases h) (Nat.le_of_ble_eq_true rfl) hd3 ho4 (fun z7 m8 hp9 hz10 hw11 => ?_)
  have H6 := H5 z7 m8 hp9 hz10 hw11
  exact Wq.iret d_String_indexOf_I_6 rfl H6
