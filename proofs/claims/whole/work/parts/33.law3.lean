theorem s_Law_18 {l : Launch} {G : GT} {Q : Option MV → MM → Nat → Prop} {m : MM} (x3 : Int) (H : wfM m → inR x3 → g_L G ≤ 3072 → ((inR ((g_L G : Int) - 6)) ∧ ((x3 > ((g_L G : Int) - 6) → (True)) ∧ (¬ (x3 > ((g_L G : Int) - 6)) → ((0 ≤ x3 ∧ x3 < (g_L G : Int)) ∧ (((bAnd (g_x G (x3).toNat) 63) = 0 → (Wq l G true Y_Law 400 Q 264 [(0, .inr (.inr 1000)), (1, .inr (.inr 0)), (2, .inr (.inr 70)), (3, .inl x3)] [] m)) ∧ ((bAnd (g_x G (x3).toNat) 63) = 1 → (Wq l G true Y_Law 400 Q 327 [(0, .inr (.inr 1000)), (1, .inr (.inr 0)), (2, .inr (.inr 70)), (3, .inl x3)] [] m)) ∧ ((bAnd (g_x G (x3).toNat) 63) = 2 → (Wq l G true Y_Law 400 Q 350 [(0, .inr (.inr 1000)), (1, .inr (.inr 0)), (2, .inr (.inr 70)), (3, .inl x3)] [] m)) ∧ ((bAnd (g_x G (x3).toNat) 63) = 3 → (Wq l G true Y_Law 400 Q 363 [(0, .inr (.inr 1000)), (1, .inr (.inr 0)), (2, .inr (.inr 70)), (3, .inl x3)] [] m)) ∧ ((bAnd (g_x G (x3).toNat) 63) = 4 → (Wq l G true Y_Law 400 Q 386 [(0, .inr (.inr 1000)), (1, .inr (.inr 0)), (2, .inr (.inr 70)), (3, .inl x3)] [] m)) ∧ ((bAnd (g_x G (x3).toNat) 63) = 5 → (Wq l G true Y_Law 400 Q 419 [(0, .inr (.inr 1000)), (1, .inr (.inr 0)), (2, .inr (.inr 70)), (3, .inl x3)] [] m)) ∧ ((bAnd (g_x G (x3).toNat) 63) = 6 → (Wq l G true Y_Law 400 Q 452 [(0, .inr (.inr 1000)), (1, .inr (.inr 0)), (2, .inr (.inr 70)), (3, .inl x3)] [] m)) ∧ ((bAnd (g_x G (x3).toNat) 63) = 7 → (Wq l G true Y_Law 400 Q 475 [(0, .inr (.inr 1000)), (1, .inr (.inr 0)), (2, .inr (.inr 70)), (3, .inl x3)] [] m)) ∧ ((bAnd (g_x G (x3).toNat) 63) = 8 → (Wq l G true Y_Law 400 Q 488 [(0, .inr (.inr 1000)), (1, .inr (.inr 0)), (2, .inr (.inr 70)), (3, .inl x3)] [] m)) ∧ ((bAnd (g_x G (x3).toNat) 63) = 9 → (Wq l G true Y_Law 400 Q 521 [(0, .inr (.inr 1000)), (1, .inr (.inr 0)), (2, .inr (.inr 70)), (3, .inl x3)] [] m)) ∧ ((bAnd (g_x G (x3).toNat) 63) = 10 → (Wq l G true Y_Law 400 Q 544 [(0, .inr (.inr 1000)), (1, .inr (.inr 0)), (2, .inr (.inr 70)), (3, .inl x3)] [] m)) ∧ ((bAnd (g_x G (x3).toNat) 63) = 11 → (Wq l G true Y_Law 400 Q 557 [(0, .inr (.inr 1000)), (1, .inr (.inr 0)), (2, .inr (.inr 70)), (3, .inl x3)] [] m)) ∧ ((bAnd (g_x G (x3).toNat) 63) = 12 → (Wq l G true Y_Law 400 Q 580 [(0, .inr (.inr 1000)), (1, .inr (.inr 0)), (2, .inr (.inr 70)), (3, .inl x3)] [] m)) ∧ ((bAnd (g_x G (x3).toNat) 63) = 13 → (Wq l G true Y_Law 400 Q 593 [(0, .inr (.inr 1000)), (1, .inr (.inr 0)), (2, .inr (.inr 70)), (3, .inl x3)] [] m)) ∧ ((bAnd (g_x G (x3).toNat) 63) = 14 → (Wq l G true Y_Law 400 Q 606 [(0, .inr (.inr 1000)), (1, .inr (.inr 0)), (2, .inr (.inr 70)), (3, .inl x3)] [] m)) ∧ ((bAnd (g_x G (x3).toNat) 63) = 15 → (Wq l G true Y_Law 400 Q 649 [(0, .inr (.inr 1000)), (1, .inr (.inr 0)), (2, .inr (.inr 70)), (3, .inl x3)] [] m)) ∧ ((bAnd (g_x G (x3).toNat) 63) = 16 → (Wq l G true Y_Law 400 Q 662 [(0, .inr (.inr 1000)), (1, .inr (.inr 0)), (2, .inr (.inr 70)), (3, .inl x3)] [] m)) ∧ ((bAnd (g_x G (x3).toNat) 63) = 17 → (Wq l G true Y_Law 400 Q 685 [(0, .inr (.inr 1000)), (1, .inr (.inr 0)), (2, .inr (.inr 70)), (3, .inl x3)] [] m)) ∧ ((bAnd (g_x G (x3).toNat) 63) = 18 → (Wq l G true Y_Law 400 Q 708 [(0, .inr (.inr 1000)), (1, .inr (.inr 0)), (2, .inr (.inr 70)), (3, .inl x3)] [] m)) ∧ ((bAnd (g_x G (x3).toNat) 63) = 19 → (Wq l G true Y_Law 400 Q 721 [(0, .inr (.inr 1000)), (1, .inr (.inr 0)), (2, .inr (.inr 70)), (3, .inl x3)] [] m)) ∧ ((bAnd (g_x G (x3).toNat) 63) = 20 → (Wq l G true Y_Law 400 Q 734 [(0, .inr (.inr 1000)), (1, .inr (.inr 0)), (2, .inr (.inr 70)), (3, .inl x3)] [] m)) ∧ ((bAnd (g_x G (x3).toNat) 63) = 21 → (Wq l G true Y_Law 400 Q 747 [(0, .inr (.inr 1000)), (1, .inr (.inr 0)), (2, .inr (.inr 70)), (3, .inl x3)] [] m)) ∧ ((bAnd (g_x G (x3).toNat) 63) = 22 → (Wq l G true Y_Law 400 Q 780 [(0, .inr (.inr 1000)), (1, .inr (.inr 0)), (2, .inr (.inr 70)), (3, .inl x3)] [] m)) ∧ ((bAnd (g_x G (x3).toNat) 63) = 23 → (Wq l G true Y_Law 400 Q 793 [(0, .inr (.inr 1000)), (1, .inr (.inr 0)), (2, .inr (.inr 70)), (3, .inl x3)] [] m)) ∧ ((bAnd (g_x G (x3).toNat) 63) = 24 → (Wq l G true Y_Law 400 Q 806 [(0, .inr (.inr 1000)), (1, .inr (.inr 0)), (2, .inr (.inr 70)), (3, .inl x3)] [] m)) ∧ ((bAnd (g_x G (x3).toNat) 63) = 25 → (Wq l G true Y_Law 400 Q 819 [(0, .inr (.inr 1000)), (1, .inr (.inr 0)), (2, .inr (.inr 70)), (3, .inl x3)] [] m)) ∧ ((bAnd (g_x G (x3).toNat) 63) = 26 → (Wq l G true Y_Law 400 Q 832 [(0, .inr (.inr 1000)), (1, .inr (.inr 0)), (2, .inr (.inr 70)), (3, .inl x3)] [] m)) ∧ ((bAnd (g_x G (x3).toNat) 63) = 27 → (Wq l G true Y_Law 400 Q 855 [(0, .inr (.inr 1000)), (1, .inr (.inr 0)), (2, .inr (.inr 70)), (3, .inl x3)] [] m)) ∧ ((bAnd (g_x G (x3).toNat) 63) = 28 → (Wq l G true Y_Law 400 Q 878 [(0, .inr (.inr 1000)), (1, .inr (.inr 0)), (2, .inr (.inr 70)), (3, .inl x3)] [] m)) ∧ ((bAnd (g_x G (x3).toNat) 63) = 29 → (Wq l G true Y_Law 400 Q 891 [(0, .inr (.inr 1000)), (1, .inr (.inr 0)), (2, .inr (.inr 70)), (3, .inl x3)] [] m)) ∧ ((bAnd (g_x G (x3).toNat) 63) = 30 → (Wq l G true Y_Law 400 Q 914 [(0, .inr (.inr 1000)), (1, .inr (.inr 0)), (2, .inr (.inr 70)), (3, .inl x3)] [] m)) ∧ ((bAnd (g_x G (x3).toNat) 63) = 31 → (Wq l G true Y_Law 400 Q 937 [(0, .inr (.inr 1000)), (1, .inr (.inr 0)), (2, .inr (.inr 70)), (3, .inl x3)] [] m)) ∧ ((bAnd (g_x G (x3).toNat) 63) = 32 → (Wq l G true Y_Law 400 Q 960 [(0, .inr (.inr 1000)), (1, .inr (.inr 0)), (2, .inr (.inr 70)), (3, .inl x3)] [] m)) ∧ ((bAnd (g_x G (x3).toNat) 63) = 33 → (Wq l G true Y_Law 400 Q 983 [(0, .inr (.inr 1000)), (1, .inr (.inr 0)), (2, .inr (.inr 70)), (3, .inl x3)] [] m)) ∧ ((bAnd (g_x G (x3).toNat) 63) = 34 → (Wq l G true Y_Law 400 Q 1006 [(0, .inr (.inr 1000)), (1, .inr (.inr 0)), (2, .inr (.inr 70)), (3, .inl x3)] [] m)) ∧ ((bAnd (g_x G (x3).toNat) 63) = 35 → (Wq l G true Y_Law 400 Q 1019 [(0, .inr (.inr 1000)), (1, .inr (.inr 0)), (2, .inr (.inr 70)), (3, .inl x3)] [] m)) ∧ ((bAnd (g_x G (x3).toNat) 63) = 36 → (Wq l G true Y_Law 400 Q 1042 [(0, .inr (.inr 1000)), (1, .inr (.inr 0)), (2, .inr (.inr 70)), (3, .inl x3)] [] m)) ∧ ((bAnd (g_x G (x3).toNat) 63) = 37 → (Wq l G true Y_Law 400 Q 1055 [(0, .inr (.inr 1000)), (1, .inr (.inr 0)), (2, .inr (.inr 70)), (3, .inl x3)] [] m)) ∧ ((bAnd (g_x G (x3).toNat) 63) = 38 → (Wq l G true Y_Law 400 Q 1078 [(0, .inr (.inr 1000)), (1, .inr (.inr 0)), (2, .inr (.inr 70)), (3, .inl x3)] [] m)) ∧ ((bAnd (g_x G (x3).toNat) 63) = 39 → (Wq l G true Y_Law 400 Q 1121 [(0, .inr (.inr 1000)), (1, .inr (.inr 0)), (2, .inr (.inr 70)), (3, .inl x3)] [] m)) ∧ ((bAnd (g_x G (x3).toNat) 63) = 40 → (Wq l G true Y_Law 400 Q 1144 [(0, .inr (.inr 1000)), (1, .inr (.inr 0)), (2, .inr (.inr 70)), (3, .inl x3)] [] m)) ∧ ((bAnd (g_x G (x3).toNat) 63) = 41 → (Wq l G true Y_Law 400 Q 1167 [(0, .inr (.inr 1000)), (1, .inr (.inr 0)), (2, .inr (.inr 70)), (3, .inl x3)] [] m)) ∧ ((bAnd (g_x G (x3).toNat) 63) = 42 → (Wq l G true Y_Law 400 Q 1200 [(0, .inr (.inr 1000)), (1, .inr (.inr 0)), (2, .inr (.inr 70)), (3, .inl x3)] [] m)) ∧ ((bAnd (g_x G (x3).toNat) 63) = 43 → (Wq l G true Y_Law 400 Q 1223 [(0, .inr (.inr 1000)), (1, .inr (.inr 0)), (2, .inr (.inr 70)), (3, .inl x3)] [] m)) ∧ ((bAnd (g_x G (x3).toNat) 63) = 44 → (Wq l G true Y_Law 400 Q 1256 [(0, .inr (.inr 1000)), (1, .inr (.inr 0)), (2, .inr (.inr 70)), (3, .inl x3)] [] m)) ∧ ((bAnd (g_x G (x3).toNat) 63) = 45 → (Wq l G true Y_Law 400 Q 1279 [(0, .inr (.inr 1000)), (1, .inr (.inr 0)), (2, .inr (.inr 70)), (3, .inl x3)] [] m)) ∧ ((bAnd (g_x G (x3).toNat) 63) = 46 → (Wq l G true Y_Law 400 Q 1338 [(0, .inr (.inr 1000)), (1, .inr (.inr 0)), (2, .inr (.inr 70)), (3, .inl x3)] [] m)) ∧ ((bAnd (g_x G (x3).toNat) 63) = 47 → (Wq l G true Y_Law 400 Q 1361 [(0, .inr (.inr 1000)), (1, .inr (.inr 0)), (2, .inr (.inr 70)), (3, .inl x3)] [] m)) ∧ ((bAnd (g_x G (x3).toNat) 63) = 48 → (Wq l G true Y_Law 400 Q 1384 [(0, .inr (.inr 1000)), (1, .inr (.inr 0)), (2, .inr (.inr 70)), (3, .inl x3)] [] m)) ∧ ((bAnd (g_x G (x3).toNat) 63) = 49 → (Wq l G true Y_Law 400 Q 1407 [(0, .inr (.inr 1000)), (1, .inr (.inr 0)), (2, .inr (.inr 70)), (3, .inl x3)] [] m)) ∧ ((bAnd (g_x G (x3).toNat) 63) = 50 → (Wq l G true Y_Law 400 Q 1440 [(0, .inr (.inr 1000)), (1, .inr (.inr 0)), (2, .inr (.inr 70)), (3, .inl x3)] [] m)) ∧ ((bAnd (g_x G (x3).toNat) 63) = 51 → (Wq l G true Y_Law 400 Q 1473 [(0, .inr (.inr 1000)), (1, .inr (.inr 0)), (2, .inr (.inr 70)), (3, .inl x3)] [] m)) ∧ ((bAnd (g_x G (x3).toNat) 63) = 52 → (Wq l G true Y_Law 400 Q 1496 [(0, .inr (.inr 1000)), (1, .inr (.inr 0)), (2, .inr (.inr 70)), (3, .inl x3)] [] m)) ∧ ((bAnd (g_x G (x3).toNat) 63) = 53 → (Wq l G true Y_Law 400 Q 1519 [(0, .inr (.inr 1000)), (1, .inr (.inr 0)), (2, .inr (.inr 70)), (3, .inl x3)] [] m)) ∧ (¬ ((bAnd (g_x G (x3).toNat) 63) = 0) → ¬ ((bAnd (g_x G (x3).toNat) 63) = 1) → ¬ ((bAnd (g_x G (x3).toNat) 63) = 2) → ¬ ((bAnd (g_x G (x3).toNat) 63) = 3) → ¬ ((bAnd (g_x G (x3).toNat) 63) = 4) → ¬ ((bAnd (g_x G (x3).toNat) 63) = 5) → ¬ ((bAnd (g_x G (x3).toNat) 63) = 6) → ¬ ((bAnd (g_x G (x3).toNat) 63) = 7) → ¬ ((bAnd (g_x G (x3).toNat) 63) = 8) → ¬ ((bAnd (g_x G (x3).toNat) 63) = 9) → ¬ ((bAnd (g_x G (x3).toNat) 63) = 10) → ¬ ((bAnd (g_x G (x3).toNat) 63) = 11) → ¬ ((bAnd (g_x G (x3).toNat) 63) = 12) → ¬ ((bAnd (g_x G (x3).toNat) 63) = 13) → ¬ ((bAnd (g_x G (x3).toNat) 63) = 14) → ¬ ((bAnd (g_x G (x3).toNat) 63) = 15) → ¬ ((bAnd (g_x G (x3).toNat) 63) = 16) → ¬ ((bAnd (g_x G (x3).toNat) 63) = 17) → ¬ ((bAnd (g_x G (x3).toNat) 63) = 18) → ¬ ((bAnd (g_x G (x3).toNat) 63) = 19) → ¬ ((bAnd (g_x G (x3).toNat) 63) = 20) → ¬ ((bAnd (g_x G (x3).toNat) 63) = 21) → ¬ ((bAnd (g_x G (x3).toNat) 63) = 22) → ¬ ((bAnd (g_x G (x3).toNat) 63) = 23) → ¬ ((bAnd (g_x G (x3).toNat) 63) = 24) → ¬ ((bAnd (g_x G (x3).toNat) 63) = 25) → ¬ ((bAnd (g_x G (x3).toNat) 63) = 26) → ¬ ((bAnd (g_x G (x3).toNat) 63) = 27) → ¬ ((bAnd (g_x G (x3).toNat) 63) = 28) → ¬ ((bAnd (g_x G (x3).toNat) 63) = 29) → ¬ ((bAnd (g_x G (x3).toNat) 63) = 30) → ¬ ((bAnd (g_x G (x3).toNat) 63) = 31) → ¬ ((bAnd (g_x G (x3).toNat) 63) = 32) → ¬ ((bAnd (g_x G (x3).toNat) 63) = 33) → ¬ ((bAnd (g_x G (x3).toNat) 63) = 34) → ¬ ((bAnd (g_x G (x3).toNat) 63) = 35) → ¬ ((bAnd (g_x G (x3).toNat) 63) = 36) → ¬ ((bAnd (g_x G (x3).toNat) 63) = 37) → ¬ ((bAnd (g_x G (x3).toNat) 63) = 38) → ¬ ((bAnd (g_x G (x3).toNat) 63) = 39) → ¬ ((bAnd (g_x G (x3).toNat) 63) = 40) → ¬ ((bAnd (g_x G (x3).toNat) 63) = 41) → ¬ ((bAnd (g_x G (x3).toNat) 63) = 42) → ¬ ((bAnd (g_x G (x3).toNat) 63) = 43) → ¬ ((bAnd (g_x G (x3).toNat) 63) = 44) → ¬ ((bAnd (g_x G (x3).toNat) 63) = 45) → ¬ ((bAnd (g_x G (x3).toNat) 63) = 46) → ¬ ((bAnd (g_x G (x3).toNat) 63) = 47) → ¬ ((bAnd (g_x G (x3).toNat) 63) = 48) → ¬ ((bAnd (g_x G (x3).toNat) 63) = 49) → ¬ ((bAnd (g_x G (x3).toNat) 63) = 50) → ¬ ((bAnd (g_x G (x3).toNat) 63) = 51) → ¬ ((bAnd (g_x G (x3).toNat) 63) = 52) → ¬ ((bAnd (g_x G (x3).toNat) 63) = 53) → (Wq l G true Y_Law 400 Q 1542 [(0, .inr (.inr 1000)), (1, .inr (.inr 0)), (2, .inr (.inr 70)), (3, .inl x3)] [] m)))))))) : Wq l G true Y_Law 400 Q 18 [(0, .inr (.inr 1000)), (1, .inr (.inr 0)), (2, .inr (.inr 70)), (3, .inl x3)] [] m := by
  refine Wp.wf (fun hw _ hl hs => ?_)
  have H0 := H hw (hl _ (List.mem_of_getElem? (i := 3) rfl))
  refine Wp.iload_n 3 3 d_Law_18 rfl rfl ?_
  refine Wp.aload_n 0 0 d_Law_19 rfl rfl ?_
  refine Wp.slen d_Law_20 (fun hL1 => ?_)
  have H2 := H0 hL1
  refine Wp.bipush d_Law_21 (by decide) (by decide) ?_
  obtain ⟨s3, H4⟩ := H2
  refine Wp.isub d_Law_23 s3 ?_
  obtain ⟨H6, H7⟩ := H4
  refine Wp.icmp_gt 1548 d_Law_24 (by decide) (fun c5 => ?_) (fun c5 => ?_)
  · have H8 := H6 c5
    refine Wp.iconst d_Law_1548 (by decide) ?_
    exact Wq.lawret d_Law_1549
  · have H9 := H7 c5
    refine Wp.aload_n 0 0 d_Law_27 rfl rfl ?_
    refine Wp.iload_n 3 3 d_Law_28 rfl rfl ?_
    obtain ⟨s10, H11⟩ := H9
    refine Wp.sald d_Law_29 s10.1 s10.2 ?_
    refine Wp.bipush d_Law_30 (by decide) (by decide) ?_
    refine Wp.iand d_Law_32 ?_
    obtain ⟨H12, H13⟩ := H11
    by_cases c14 : (bAnd (g_x G (x3).toNat) 63) = 0
    · have H15 := H12 c14
      refine Wp.tin (off := 231) 0 264 d_Law_33 c14 (by decide +kernel) (by decide +kernel) (by decide +kernel) (by decide +kernel) ?_
      exact H15
    obtain ⟨H16, H17⟩ := H13
    by_cases c18 : (bAnd (g_x G (x3).toNat) 63) = 1
    · have H19 := H16 c18
      refine Wp.tin (off := 294) 1 327 d_Law_33 c18 (by decide +kernel) (by decide +kernel) (by decide +kernel) (by decide +kernel) ?_
      exact H19
    obtain ⟨H20, H21⟩ := H17
    by_cases c22 : (bAnd (g_x G (x3).toNat) 63) = 2
    · have H23 := H20 c22
      refine Wp.tin (off := 317) 2 350 d_Law_33 c22 (by decide +kernel) (by decide +kernel) (by decide +kernel) (by decide +kernel) ?_
      exact H23
    obtain ⟨H24, H25⟩ := H21
    by_cases c26 : (bAnd (g_x G (x3).toNat) 63) = 3
    · have H27 := H24 c26
      refine Wp.tin (off := 330) 3 363 d_Law_33 c26 (by decide +kernel) (by decide +kernel) (by decide +kernel) (by decide +kernel) ?_
      exact H27
    obtain ⟨H28, H29⟩ := H25
    by_cases c30 : (bAnd (g_x G (x3).toNat) 63) = 4
    · have H31 := H28 c30
      refine Wp.tin (off := 353) 4 386 d_Law_33 c30 (by decide +kernel) (by decide +kernel) (by decide +kernel) (by decide +kernel) ?_
      exact H31
    obtain ⟨H32, H33⟩ := H29
    by_cases c34 : (bAnd (g_x G (x3).toNat) 63) = 5
    · have H35 := H32 c34
      refine Wp.tin (off := 386) 5 419 d_Law_33 c34 (by decide +kernel) (by decide +kernel) (by decide +kernel) (by decide +kernel) ?_
      exact H35
    obtain ⟨H36, H37⟩ := H33
    by_cases c38 : (bAnd (g_x G (x3).toNat) 63) = 6
    · have H39 := H36 c38
      refine Wp.tin (off := 419) 6 452 d_Law_33 c38 (by decide +kernel) (by decide +kernel) (by decide +kernel) (by decide +kernel) ?_
      exact H39
    obtain ⟨H40, H41⟩ := H37
    by_cases c42 : (bAnd (g_x G (x3).toNat) 63) = 7
    · have H43 := H40 c42
      refine Wp.tin (off := 442) 7 475 d_Law_33 c42 (by decide +kernel) (by decide +kernel) (by decide +kernel) (by decide +kernel) ?_
      exact H43
    obtain ⟨H44, H45⟩ := H41
    by_cases c46 : (bAnd (g_x G (x3).toNat) 63) = 8
    · have H47 := H44 c46
      refine Wp.tin (off := 455) 8 488 d_Law_33 c46 (by decide +kernel) (by decide +kernel) (by decide +kernel) (by decide +kernel) ?_
      exact H47
    obtain ⟨H48, H49⟩ := H45
    by_cases c50 : (bAnd (g_x G (x3).toNat) 63) = 9
    · have H51 := H48 c50
      refine Wp.tin (off := 488) 9 521 d_Law_33 c50 (by decide +kernel) (by decide +kernel) (by decide +kernel) (by decide +kernel) ?_
      exact H51
    obtain ⟨H52, H53⟩ := H49
    by_cases c54 : (bAnd (g_x G (x3).toNat) 63) = 10
    · have H55 := H52 c54
      refine Wp.tin (off := 511) 10 544 d_Law_33 c54 (by decide +kernel) (by decide +kernel) (by decide +kernel) (by decide +kernel) ?_
      exact H55
    obtain ⟨H56, H57⟩ := H53
    by_cases c58 : (bAnd (g_x G (x3).toNat) 63) = 11
    · have H59 := H56 c58
      refine Wp.tin (off := 524) 11 557 d_Law_33 c58 (by decide +kernel) (by decide +kernel) (by decide +kernel) (by decide +kernel) ?_
      exact H59
    obtain ⟨H60, H61⟩ := H57
    by_cases c62 : (bAnd (g_x G (x3).toNat) 63) = 12
    · have H63 := H60 c62
      refine Wp.tin (off := 547) 12 580 d_Law_33 c62 (by decide +kernel) (by decide +kernel) (by decide +kernel) (by decide +kernel) ?_
      exact H63
    obtain ⟨H64, H65⟩ := H61
    by_cases c66 : (bAnd (g_x G (x3).toNat) 63) = 13
    · have H67 := H64 c66
      refine Wp.tin (off := 560) 13 593 d_Law_33 c66 (by decide +kernel) (by decide +kernel) (by decide +kernel) (by decide +kernel) ?_
      exact H67
    obtain ⟨H68, H69⟩ := H65
    by_cases c70 : (bAnd (g_x G (x3).toNat) 63) = 14
    · have H71 := H68 c70
      refine Wp.tin (off := 573) 14 606 d_Law_33 c70 (by decide +kernel) (by decide +kernel) (by decide +kernel) (by decide +kernel) ?_
      exact H71
    obtain ⟨H72, H73⟩ := H69
    by_cases c74 : (bAnd (g_x G (x3).toNat) 63) = 15
    · have H75 := H72 c74
      refine Wp.tin (off := 616) 15 649 d_Law_33 c74 (by decide +kernel) (by decide +kernel) (by decide +kernel) (by decide +kernel) ?_
      exact H75
    obtain ⟨H76, H77⟩ := H73
    by_cases c78 : (bAnd (g_x G (x3).toNat) 63) = 16
    · have H79 := H76 c78
      refine Wp.tin (off := 629) 16 662 d_Law_33 c78 (by decide +kernel) (by decide +kernel) (by decide +kernel) (by decide +kernel) ?_
      exact H79
    obtain ⟨H80, H81⟩ := H77
    by_cases c82 : (bAnd (g_x G (x3).toNat) 63) = 17
    · have H83 := H80 c82
      refine Wp.tin (off := 652) 17 685 d_Law_33 c82 (by decide +kernel) (by decide +kernel) (by decide +kernel) (by decide +kernel) ?_
      exact H83
    obtain ⟨H84, H85⟩ := H81
    by_cases c86 : (bAnd (g_x G (x3).toNat) 63) = 18
    · have H87 := H84 c86
      refine Wp.tin (off := 675) 18 708 d_Law_33 c86 (by decide +kernel) (by decide +kernel) (by decide +kernel) (by decide +kernel) ?_
      exact H87
    obtain ⟨H88, H89⟩ := H85
    by_cases c90 : (bAnd (g_x G (x3).toNat) 63) = 19
    · have H91 := H88 c90
      refine Wp.tin (off := 688) 19 721 d_Law_33 c90 (by decide +kernel) (by decide +kernel) (by decide +kernel) (by decide +kernel) ?_
      exact H91
    obtain ⟨H92, H93⟩ := H89
    by_cases c94 : (bAnd (g_x G (x3).toNat) 63) = 20
    · have H95 := H92 c94
      refine Wp.tin (off := 701) 20 734 d_Law_33 c94 (by decide +kernel) (by decide +kernel) (by decide +kernel) (by decide +kernel) ?_
      exact H95
    obtain ⟨H96, H97⟩ := H93
    by_cases c98 : (bAnd (g_x G (x3).toNat) 63) = 21
    · have H99 := H96 c98
      refine Wp.tin (off := 714) 21 747 d_Law_33 c98 (by decide +kernel) (by decide +kernel) (by decide +kernel) (by decide +kernel) ?_
      exact H99
    obtain ⟨H100, H101⟩ := H97
    by_cases c102 : (bAnd (g_x G (x3).toNat) 63) = 22
    · have H103 := H100 c102
      refine Wp.tin (off := 747) 22 780 d_Law_33 c102 (by decide +kernel) (by decide +kernel) (by decide +kernel) (by decide +kernel) ?_
      exact H103
    obtain ⟨H104, H105⟩ := H101
    by_cases c106 : (bAnd (g_x G (x3).toNat) 63) = 23
    · have H107 := H104 c106
      refine Wp.tin (off := 760) 23 793 d_Law_33 c106 (by decide +kernel) (by decide +kernel) (by decide +kernel) (by decide +kernel) ?_
      exact H107
    obtain ⟨H108, H109⟩ := H105
    by_cases c110 : (bAnd (g_x G (x3).toNat) 63) = 24
    · have H111 := H108 c110
      refine Wp.tin (off := 773) 24 806 d_Law_33 c110 (by decide +kernel) (by decide +kernel) (by decide +kernel) (by decide +kernel) ?_
      exact H111
    obtain ⟨H112, H113⟩ := H109
    by_cases c114 : (bAnd (g_x G (x3).toNat) 63) = 25
    · have H115 := H112 c114
      refine Wp.tin (off := 786) 25 819 d_Law_33 c114 (by decide +kernel) (by decide +kernel) (by decide +kernel) (by decide +kernel) ?_
      exact H115
    obtain ⟨H116, H117⟩ := H113
    by_cases c118 : (bAnd (g_x G (x3).toNat) 63) = 26
    · have H119 := H116 c118
      refine Wp.tin (off := 799) 26 832 d_Law_33 c118 (by decide +kernel) (by decide +kernel) (by decide +kernel) (by decide +kernel) ?_
      exact H119
    obtain ⟨H120, H121⟩ := H117
    by_cases c122 : (bAnd (g_x G (x3).toNat) 63) = 27
    · have H123 := H120 c122
      refine Wp.tin (off := 822) 27 855 d_Law_33 c122 (by decide +kernel) (by decide +kernel) (by decide +kernel) (by decide +kernel) ?_
      exact H123
    obtain ⟨H124, H125⟩ := H121
    by_cases c126 : (bAnd (g_x G (x3).toNat) 63) = 28
    · have H127 := H124 c126
      refine Wp.tin (off := 845) 28 878 d_Law_33 c126 (by decide +kernel) (by decide +kernel) (by decide +kernel) (by decide +kernel) ?_
      exact H127
    obtain ⟨H128, H129⟩ := H125
    by_cases c130 : (bAnd (g_x G (x3).toNat) 63) = 29
    · have H131 := H128 c130
      refine Wp.tin (off := 858) 29 891 d_Law_33 c130 (by decide +kernel) (by decide +kernel) (by decide +kernel) (by decide +kernel) ?_
      exact H131
    obtain ⟨H132, H133⟩ := H129
    by_cases c134 : (bAnd (g_x G (x3).toNat) 63) = 30
    · have H135 := H132 c134
      refine Wp.tin (off := 881) 30 914 d_Law_33 c134 (by decide +kernel) (by decide +kernel) (by decide +kernel) (by decide +kernel) ?_
      exact H135
    obtain ⟨H136, H137⟩ := H133
    by_cases c138 : (bAnd (g_x G (x3).toNat) 63) = 31
    · have H139 := H136 c138
      refine Wp.tin (off := 904) 31 937 d_Law_33 c138 (by decide +kernel) (by decide +kernel) (by decide +kernel) (by decide +kernel) ?_
      exact H139
    obtain ⟨H140, H141⟩ := H137
    by_cases c142 : (bAnd (g_x G (x3).toNat) 63) = 32
    · have H143 := H140 c142
      refine Wp.tin (off := 927) 32 960 d_Law_33 c142 (by decide +kernel) (by decide +kernel) (by decide +kernel) (by decide +kernel) ?_
      exact H143
    obtain ⟨H144, H145⟩ := H141
    by_cases c146 : (bAnd (g_x G (x3).toNat) 63) = 33
    · have H147 := H144 c146
      refine Wp.tin (off := 950) 33 983 d_Law_33 c146 (by decide +kernel) (by decide +kernel) (by decide +kernel) (by decide +kernel) ?_
      exact H147
    obtain ⟨H148, H149⟩ := H145
    by_cases c150 : (bAnd (g_x G (x3).toNat) 63) = 34
    · have H151 := H148 c150
      refine Wp.tin (off := 973) 34 1006 d_Law_33 c150 (by decide +kernel) (by decide +kernel) (by decide +kernel) (by decide +kernel) ?_
      exact H151
    obtain ⟨H152, H153⟩ := H149
    by_cases c154 : (bAnd (g_x G (x3).toNat) 63) = 35
    · have H155 := H152 c154
      refine Wp.tin (off := 986) 35 1019 d_Law_33 c154 (by decide +kernel) (by decide +kernel) (by decide +kernel) (by decide +kernel) ?_
      exact H155
    obtain ⟨H156, H157⟩ := H153
    by_cases c158 : (bAnd (g_x G (x3).toNat) 63) = 36
    · have H159 := H156 c158
      refine Wp.tin (off := 1009) 36 1042 d_Law_33 c158 (by decide +kernel) (by decide +kernel) (by decide +kernel) (by decide +kernel) ?_
      exact H159
    obtain ⟨H160, H161⟩ := H157
    by_cases c162 : (bAnd (g_x G (x3).toNat) 63) = 37
    · have H163 := H160 c162
      refine Wp.tin (off := 1022) 37 1055 d_Law_33 c162 (by decide +kernel) (by decide +kernel) (by decide +kernel) (by decide +kernel) ?_
      exact H163
    obtain ⟨H164, H165⟩ := H161
    by_cases c166 : (bAnd (g_x G (x3).toNat) 63) = 38
    · have H167 := H164 c166
      refine Wp.tin (off := 1045) 38 1078 d_Law_33 c166 (by decide +kernel) (by decide +kernel) (by decide +kernel) (by decide +kernel) ?_
      exact H167
    obtain ⟨H168, H169⟩ := H165
    by_cases c170 : (bAnd (g_x G (x3).toNat) 63) = 39
    · have H171 := H168 c170
      refine Wp.tin (off := 1088) 39 1121 d_Law_33 c170 (by decide +kernel) (by decide +kernel) (by decide +kernel) (by decide +kernel) ?_
      exact H171
    obtain ⟨H172, H173⟩ := H169
    by_cases c174 : (bAnd (g_x G (x3).toNat) 63) = 40
    · have H175 := H172 c174
      refine Wp.tin (off := 1111) 40 1144 d_Law_33 c174 (by decide +kernel) (by decide +kernel) (by decide +kernel) (by decide +kernel) ?_
      exact H175
    obtain ⟨H176, H177⟩ := H173
    by_cases c178 : (bAnd (g_x G (x3).toNat) 63) = 41
    · have H179 := H176 c178
      refine Wp.tin (off := 1134) 41 1167 d_Law_33 c178 (by decide +kernel) (by decide +kernel) (by decide +kernel) (by decide +kernel) ?_
      exact H179
    obtain ⟨H180, H181⟩ := H177
    by_cases c182 : (bAnd (g_x G (x3).toNat) 63) = 42
    · have H183 := H180 c182
      refine Wp.tin (off := 1167) 42 1200 d_Law_33 c182 (by decide +kernel) (by decide +kernel) (by decide +kernel) (by decide +kernel) ?_
      exact H183
    obtain ⟨H184, H185⟩ := H181
    by_cases c186 : (bAnd (g_x G (x3).toNat) 63) = 43
    · have H187 := H184 c186
      refine Wp.tin (off := 1190) 43 1223 d_Law_33 c186 (by decide +kernel) (by decide +kernel) (by decide +kernel) (by decide +kernel) ?_
      exact H187
    obtain ⟨H188, H189⟩ := H185
    by_cases c190 : (bAnd (g_x G (x3).toNat) 63) = 44
    · have H191 := H188 c190
      refine Wp.tin (off := 1223) 44 1256 d_Law_33 c190 (by decide +kernel) (by decide +kernel) (by decide +kernel) (by decide +kernel) ?_
      exact H191
    obtain ⟨H192, H193⟩ := H189
    by_cases c194 : (bAnd (g_x G (x3).toNat) 63) = 45
    · have H195 := H192 c194
      refine Wp.tin (off := 1246) 45 1279 d_Law_33 c194 (by decide +kernel) (by decide +kernel) (by decide +kernel) (by decide +kernel) ?_
      exact H195
    obtain ⟨H196, H197⟩ := H193
    by_cases c198 : (bAnd (g_x G (x3).toNat) 63) = 46
    · have H199 := H196 c198
      refine Wp.tin (off := 1305) 46 1338 d_Law_33 c198 (by decide +kernel) (by decide +kernel) (by decide +kernel) (by decide +kernel) ?_
      exact H199
    obtain ⟨H200, H201⟩ := H197
    by_cases c202 : (bAnd (g_x G (x3).toNat) 63) = 47
    · have H203 := H200 c202
      refine Wp.tin (off := 1328) 47 1361 d_Law_33 c202 (by decide +kernel) (by decide +kernel) (by decide +kernel) (by decide +kernel) ?_
      exact H203
    obtain ⟨H204, H205⟩ := H201
    by_cases c206 : (bAnd (g_x G (x3).toNat) 63) = 48
    · have H207 := H204 c206
      refine Wp.tin (off := 1351) 48 1384 d_Law_33 c206 (by decide +kernel) (by decide +kernel) (by decide +kernel) (by decide +kernel) ?_
      exact H207
    obtain ⟨H208, H209⟩ := H205
    by_cases c210 : (bAnd (g_x G (x3).toNat) 63) = 49
    · have H211 := H208 c210
      refine Wp.tin (off := 1374) 49 1407 d_Law_33 c210 (by decide +kernel) (by decide +kernel) (by decide +kernel) (by decide +kernel) ?_
      exact H211
    obtain ⟨H212, H213⟩ := H209
    by_cases c214 : (bAnd (g_x G (x3).toNat) 63) = 50
    · have H215 := H212 c214
      refine Wp.tin (off := 1407) 50 1440 d_Law_33 c214 (by decide +kernel) (by decide +kernel) (by decide +kernel) (by decide +kernel) ?_
      exact H215
    obtain ⟨H216, H217⟩ := H213
    by_cases c218 : (bAnd (g_x G (x3).toNat) 63) = 51
    · have H219 := H216 c218
      refine Wp.tin (off := 1440) 51 1473 d_Law_33 c218 (by decide +kernel) (by decide +kernel) (by decide +kernel) (by decide +kernel) ?_
      exact H219
    obtain ⟨H220, H221⟩ := H217
    by_cases c222 : (bAnd (g_x G (x3).toNat) 63) = 52
    · have H223 := H220 c222
      refine Wp.tin (off := 1463) 52 1496 d_Law_33 c222 (by decide +kernel) (by decide +kernel) (by decide +kernel) (by decide +kernel) ?_
      exact H223
    obtain ⟨H224, H225⟩ := H221
    by_cases c226 : (bAnd (g_x G (x3).toNat) 63) = 53
    · have H227 := H224 c226
      refine Wp.tin (off := 1486) 53 1519 d_Law_33 c226 (by decide +kernel) (by decide +kernel) (by decide +kernel) (by decide +kernel) ?_
      exact H227
    have H228 := H225 c14 c18 c22 c26 c30 c34 c38 c42 c46 c50 c54 c58 c62 c66 c70 c74 c78 c82 c86 c90 c94 c98 c102 c106 c110 c114 c118 c122 c126 c130 c134 c138 c142 c146 c150 c154 c158 c162 c166 c170 c174 c178 c182 c186 c190 c194 c198 c202 c206 c210 c214 c218 c222 c226
    have ho33 : (bAnd (g_x G (x3).toNat) 63) < 0 ∨ 53 < (bAnd (g_x G (x3).toNat) 63) := (lt_or_geI (bAnd (g_x G (x3).toNat) 63) 0).elim Or.inl (fun h9 => Or.inr (Int.lt_of_lt_of_le (by decide +kernel) (ne_step (ne_step (ne_step (ne_step (ne_step (ne_step (ne_step (ne_step (ne_step (ne_step (ne_step (ne_step (ne_step (ne_step (ne_step (ne_step (ne_step (ne_step (ne_step (ne_step (ne_step (ne_step (ne_step (ne_step (ne_step (ne_step (ne_step (ne_step (ne_step (ne_step (ne_step (ne_step (ne_step (ne_step (ne_step (ne_step (ne_step (ne_step (ne_step (ne_step (ne_step (ne_step (ne_step (ne_step (ne_step (ne_step (ne_step (ne_step (ne_step (ne_step (ne_step (ne_step (ne_step (ne_step h9 c14) c18) c22) c26) c30) c34) c38) c42) c46) c50) c54) c58) c62) c66) c70) c74) c78) c82) c86) c90) c94) c98) c102) c106) c110) c114) c118) c122) c126) c130) c134) c138) c142) c146) c150) c154) c158) c162) c166) c170) c174) c178) c182) c186) c190) c194) c198) c202) c206) c210) c214) c218) c222) c226)))
    refine Wp.tout 1542 d_Law_33 ho33 (by decide +kernel) ?_
    exact H228
theorem s_Law_264 {l : Launch} {G : GT} {Q : Option MV → MM → Nat → Prop} {m : MM} (x3 : Int) (H : wfM m → inR x3 → (inR (x3 + 1)) ∧ ((0 ≤ (x3 + 1) ∧ (x3 + 1) < (g_L G : Int)) ∧ ((inR (x3 + 2)) ∧ ((0 ≤ (x3 + 2) ∧ (x3 + 2) < (g_L G : Int)) ∧ ((inR (x3 + 3)) ∧ ((0 ≤ (x3 + 3) ∧ (x3 + 3) < (g_L G : Int)) ∧ ((inR (x3 + 4)) ∧ ((0 ≤ (x3 + 4) ∧ (x3 + 4) < (g_L G : Int)) ∧ ((inR (x3 + 5)) ∧ ((0 ≤ (x3 + 5) ∧ (x3 + 5) < (g_L G : Int)) ∧ (∃ (e21 : Nat) (P22 : Int → MM → Prop), e21 < 400 ∧ CI l G Y_S_feed e21 [.inr (.inr 0), .inl (g_x G ((x3 + 1)).toNat), .inl (g_x G ((x3 + 2)).toNat), .inl (g_x G ((x3 + 3)).toNat), .inl (g_x G ((x3 + 4)).toNat), .inl (g_x G ((x3 + 5)).toNat)] m P22 ∧ (∀ z27 m28, P22 z27 m28 → inR z27 → wfM m28 → ((inR (x3 + 1)) ∧ ((0 ≤ (x3 + 1) ∧ (x3 + 1) < (g_L G : Int)) ∧ ((inR (x3 + 2)) ∧ ((0 ≤ (x3 + 2) ∧ (x3 + 2) < (g_L G : Int)) ∧ ((inR (x3 + 3)) ∧ ((0 ≤ (x3 + 3) ∧ (x3 + 3) < (g_L G : Int)) ∧ ((inR (x3 + 4)) ∧ ((0 ≤ (x3 + 4) ∧ (x3 + 4) < (g_L G : Int)) ∧ ((inR (x3 + 5)) ∧ ((0 ≤ (x3 + 5) ∧ (x3 + 5) < (g_L G : Int)) ∧ (∃ (e52 : Nat) (P53 : Int → MM → Prop), e52 < 400 ∧ CI l G Y_M_feed e52 [.inr (.inr 70), .inl (g_x G ((x3 + 1)).toNat), .inl (g_x G ((x3 + 2)).toNat), .inl (g_x G ((x3 + 3)).toNat), .inl (g_x G ((x3 + 4)).toNat), .inl (g_x G ((x3 + 5)).toNat)] m28 P53 ∧ (∀ z58 m59, P53 z58 m59 → inR z58 → wfM m59 → ((z27 = z58 → (Wq l G true Y_Law 400 Q 1542 [(0, .inr (.inr 1000)), (1, .inr (.inr 0)), (2, .inr (.inr 70)), (3, .inl x3)] [] m59)) ∧ (¬ (z27 = z58) → (False))))))))))))))))))))))))))) : Wq l G true Y_Law 400 Q 264 [(0, .inr (.inr 1000)), (1, .inr (.inr 0)), (2, .inr (.inr 70)), (3, .inl x3)] [] m := by
  refine Wp.wf (fun hw _ hl hs => ?_)
  have H0 := H hw (hl _ (List.mem_of_getElem? (i := 3) rfl))
  refine Wp.aload_n 1 1 d_Law_264 rfl rfl ?_
  refine Wp.aload_n 0 0 d_Law_265 rfl rfl ?_
  refine Wp.iload_n 3 3 d_Law_266 rfl rfl ?_
  refine Wp.iconst d_Law_267 (by decide) ?_
  obtain ⟨s1, H2⟩ := H0
  refine Wp.iadd d_Law_268 s1 ?_
  obtain ⟨s3, H4⟩ := H2
  refine Wp.sald d_Law_269 s3.1 s3.2 ?_
  refine Wp.aload_n 0 0 d_Law_270 rfl rfl ?_
  refine Wp.iload_n 3 3 d_Law_271 rfl rfl ?_
  refine Wp.iconst d_Law_272 (by decide) ?_
  obtain ⟨s5, H6⟩ := H4
  refine Wp.iadd d_Law_273 s5 ?_
  obtain ⟨s7, H8⟩ := H6
  refine Wp.sald d_Law_274 s7.1 s7.2 ?_
  refine Wp.aload_n 0 0 d_Law_275 rfl rfl ?_
  refine Wp.iload_n 3 3 d_Law_276 rfl rfl ?_
  refine Wp.iconst d_Law_277 (by decide) ?_
  obtain ⟨s9, H10⟩ := H8
  refine Wp.iadd d_Law_278 s9 ?_
  obtain ⟨s11, H12⟩ := H10
  refine Wp.sald d_Law_279 s11.1 s11.2 ?_
  refine Wp.aload_n 0 0 d_Law_280 rfl rfl ?_
  refine Wp.iload_n 3 3 d_Law_281 rfl rfl ?_
  refine Wp.iconst d_Law_282 (by decide) ?_
  obtain ⟨s13, H14⟩ := H12
  refine Wp.iadd d_Law_283 s13 ?_
  obtain ⟨s15, H16⟩ := H14
  refine Wp.sald d_Law_284 s15.1 s15.2 ?_
  refine Wp.aload_n 0 0 d_Law_285 rfl rfl ?_
  refine Wp.iload_n 3 3 d_Law_286 rfl rfl ?_
  refine Wp.iconst d_Law_287 (by decide) ?_
  obtain ⟨s17, H18⟩ := H16
  refine Wp.iadd d_Law_288 s17 ?_
  obtain ⟨s19, H20⟩ := H18
  refine Wp.sald d_Law_289 s19.1 s19.2 ?_
  obtain ⟨e21, P22, hd23, ho24, H25⟩ := H20
  refine Wq.VI (st := []) [.inl (g_x G ((x3 + 1)).toNat), .inl (g_x G ((x3 + 2)).toNat), .inl (g_x G ((x3 + 3)).toNat), .inl (g_x G ((x3 + 4)).toNat), .inl (g_x G ((x3 + 5)).toNat)] d_Law_290 k_S_feed ml_Law_13 rfl rfl rfl (fun _ => by decide) (Nat.le_of_ble_eq_true rfl) hd23 ho24 (fun z27 m28 hp29 hz30 hw31 => ?_)
  have H26 := H25 z27 m28 hp29 hz30 hw31
  refine Wp.aload_n 2 2 d_Law_293 rfl rfl ?_
  refine Wp.aload_n 0 0 d_Law_294 rfl rfl ?_
  refine Wp.iload_n 3 3 d_Law_295 rfl rfl ?_
  refine Wp.iconst d_Law_296 (by decide) ?_
  obtain ⟨s32, H33⟩ := H26
  refine Wp.iadd d_Law_297 s32 ?_
  obtain ⟨s34, H35⟩ := H33
  refine Wp.sald d_Law_298 s34.1 s34.2 ?_
  refine Wp.aload_n 0 0 d_Law_299 rfl rfl ?_
  refine Wp.iload_n 3 3 d_Law_300 rfl rfl ?_
  refine Wp.iconst d_Law_301 (by decide) ?_
  obtain ⟨s36, H37⟩ := H35
  refine Wp.iadd d_Law_302 s36 ?_
  obtain ⟨s38, H39⟩ := H37
  refine Wp.sald d_Law_303 s38.1 s38.2 ?_
  refine Wp.aload_n 0 0 d_Law_304 rfl rfl ?_
  refine Wp.iload_n 3 3 d_Law_305 rfl rfl ?_
  refine Wp.iconst d_Law_306 (by decide) ?_
  obtain ⟨s40, H41⟩ := H39
  refine Wp.iadd d_Law_307 s40 ?_
  obtain ⟨s42, H43⟩ := H41
  refine Wp.sald d_Law_308 s42.1 s42.2 ?_
  refine Wp.aload_n 0 0 d_Law_309 rfl rfl ?_
  refine Wp.iload_n 3 3 d_Law_310 rfl rfl ?_
  refine Wp.iconst d_Law_311 (by decide) ?_
  obtain ⟨s44, H45⟩ := H43
  refine Wp.iadd d_Law_312 s44 ?_
  obtain ⟨s46, H47⟩ := H45
  refine Wp.sald d_Law_313 s46.1 s46.2 ?_
  refine Wp.aload_n 0 0 d_Law_314 rfl rfl ?_
  refine Wp.iload_n 3 3 d_Law_315 rfl rfl ?_
  refine Wp.iconst d_Law_316 (by decide) ?_
  obtain ⟨s48, H49⟩ := H47
  refine Wp.iadd d_Law_317 s48 ?_
  obtain ⟨s50, H51⟩ := H49
  refine Wp.sald d_Law_318 s50.1 s50.2 ?_
  obtain ⟨e52, P53, hd54, ho55, H56⟩ := H51
  refine Wq.VI (st := [.inl z27]) [.inl (g_x G ((x3 + 1)).toNat), .inl (g_x G ((x3 + 2)).toNat), .inl (g_x G ((x3 + 3)).toNat), .inl (g_x G ((x3 + 4)).toNat), .inl (g_x G ((x3 + 5)).toNat)] d_Law_319 k_M_feed ml_Law_17 rfl rfl rfl (fun _ => by decide) (Nat.le_of_ble_eq_true rfl) hd54 ho55 (fun z58 m59 hp60 hz61 hw62 => ?_)
  have H57 := H56 z58 m59 hp60 hz61 hw62
  obtain ⟨H64, H65⟩ := H57
  refine Wp.icmp_eq 1542 d_Law_322 (by decide) (fun c63 => ?_) (fun c63 => ?_)
  · have H66 := H64 c63
    exact H66
  · have H67 := H65 c63
    refine Wp.iconst d_Law_325 (by decide) ?_
    exact H67.elim
theorem s_Law_327 {l : Launch} {G : GT} {Q : Option MV → MM → Nat → Prop} {m : MM} (x3 : Int) (H : wfM m → inR x3 → (inR (x3 + 1)) ∧ ((0 ≤ (x3 + 1) ∧ (x3 + 1) < (g_L G : Int)) ∧ (∃ (e5 : Nat) (P6 : Int → MM → Prop), e5 < 400 ∧ CI l G Y_S_end e5 [.inr (.inr 0), .inl (g_x G ((x3 + 1)).toNat)] m P6 ∧ (∀ z11 m12, P6 z11 m12 → inR z11 → wfM m12 → ((inR (x3 + 1)) ∧ ((0 ≤ (x3 + 1) ∧ (x3 + 1) < (g_L G : Int)) ∧ (∃ (e20 : Nat) (P21 : Int → MM → Prop), e20 < 400 ∧ CI l G Y_M_end e20 [.inr (.inr 70), .inl (g_x G ((x3 + 1)).toNat)] m12 P21 ∧ (∀ z26 m27, P21 z26 m27 → inR z26 → wfM m27 → ((z11 = z26 → (Wq l G true Y_Law 400 Q 1542 [(0, .inr (.inr 1000)), (1, .inr (.inr 0)), (2, .inr (.inr 70)), (3, .inl x3)] [] m27)) ∧ (¬ (z11 = z26) → (False))))))))))) : Wq l G true Y_Law 400 Q 327 [(0, .inr (.inr 1000)), (1, .inr (.inr 0)), (2, .inr (.inr 70)), (3, .inl x3)] [] m := by
  refine Wp.wf (fun hw _ hl hs => ?_)
  have H0 := H hw (hl _ (List.mem_of_getElem? (i := 3) rfl))
  refine Wp.aload_n 1 1 d_Law_327 rfl rfl ?_
  refine Wp.aload_n 0 0 d_Law_328 rfl rfl ?_
  refine Wp.iload_n 3 3 d_Law_329 rfl rfl ?_
  refine Wp.iconst d_Law_330 (by decide) ?_
  obtain ⟨s1, H2⟩ := H0
  refine Wp.iadd d_Law_331 s1 ?_
  obtain ⟨s3, H4⟩ := H2
  refine Wp.sald d_Law_332 s3.1 s3.2 ?_
  obtain ⟨e5, P6, hd7, ho8, H9⟩ := H4
  refine Wq.VI (st := []) [.inl (g_x G ((x3 + 1)).toNat)] d_Law_333 k_S_end ml_Law_18 rfl rfl rfl (fun _ => by decide) (Nat.le_of_ble_eq_true rfl) hd7 ho8 (fun z11 m12 hp13 hz14 hw15 => ?_)
  have H10 := H9 z11 m12 hp13 hz14 hw15
  refine Wp.aload_n 2 2 d_Law_336 rfl rfl ?_
  refine Wp.aload_n 0 0 d_Law_337 rfl rfl ?_
  refine Wp.iload_n 3 3 d_Law_338 rfl rfl ?_
  refine Wp.iconst d_Law_339 (by decide) ?_
  obtain ⟨s16, H17⟩ := H10
  refine Wp.iadd d_Law_340 s16 ?_
  obtain ⟨s18, H19⟩ := H17
  refine Wp.sald d_Law_341 s18.1 s18.2 ?_
  obtain ⟨e20, P21, hd22, ho23, H24⟩ := H19
  refine Wq.VI (st := [.inl z11]) [.inl (g_x G ((x3 + 1)).toNat)] d_Law_342 k_M_end ml_Law_22 rfl rfl rfl (fun _ => by decide) (Nat.le_of_ble_eq_true rfl) hd22 ho23 (fun z26 m27 hp28 hz29 hw30 => ?_)
  have H25 := H24 z26 m27 hp28 hz29 hw30
  obtain ⟨H32, H33⟩ := H25
  refine Wp.icmp_eq 1542 d_Law_345 (by decide) (fun c31 => ?_) (fun c31 => ?_)
  · have H34 := H32 c31
    exact H34
  · have H35 := H33 c31
    refine Wp.iconst d_Law_348 (by decide) ?_
    exact H35.elim
theorem s_Law_350 {l : Launch} {G : GT} {Q : Option MV → MM → Nat → Prop} {m : MM} (x3 : Int) (H : wfM m → inR x3 → ∃ (e1 : Nat) (P2 : Int → MM → Prop), e1 < 400 ∧ CI l G Y_S_table e1 [.inr (.inr 0)] m P2 ∧ (∀ z7 m8, P2 z7 m8 → inR z7 → wfM m8 → (∃ (e12 : Nat) (P13 : Int → MM → Prop), e12 < 400 ∧ CI l G Y_M_table e12 [.inr (.inr 70)] m8 P13 ∧ (∀ z18 m19, P13 z18 m19 → inR z18 → wfM m19 → ((z7 = z18 → (Wq l G true Y_Law 400 Q 1542 [(0, .inr (.inr 1000)), (1, .inr (.inr 0)), (2, .inr (.inr 70)), (3, .inl x3)] [] m19)) ∧ (¬ (z7 = z18) → (False))))))) : Wq l G true Y_Law 400 Q 350 [(0, .inr (.inr 1000)), (1, .inr (.inr 0)), (2, .inr (.inr 70)), (3, .inl x3)] [] m := by
  refine Wp.wf (fun hw _ hl hs => ?_)
  have H0 := H hw (hl _ (List.mem_of_getElem? (i := 3) rfl))
  refine Wp.aload_n 1 1 d_Law_350 rfl rfl ?_
  obtain ⟨e1, P2, hd3, ho4, H5⟩ := H0
  refine Wq.VI (st := []) [] d_Law_351 k_S_table ml_Law_23 rfl rfl rfl (fun _ => by decide) (Nat.le_of_ble_eq_true rfl) hd3 ho4 (fun z7 m8 hp9 hz10 hw11 => ?_)
  have H6 := H5 z7 m8 hp9 hz10 hw11
  refine Wp.aload_n 2 2 d_Law_354 rfl rfl ?_
  obtain ⟨e12, P13, hd14, ho15, H16⟩ := H6
  refine Wq.VI (st := [.inl z7]) [] d_Law_355 k_M_table ml_Law_27 rfl rfl rfl (fun _ => by decide) (Nat.le_of_ble_eq_true rfl) hd14 ho15 (fun z18 m19 hp20 hz21 hw22 => ?_)
  have H17 := H16 z18 m19 hp20 hz21 hw22
  obtain ⟨H24, H25⟩ := H17
  refine Wp.icmp_eq 1542 d_Law_358 (by decide) (fun c23 => ?_) (fun c23 => ?_)
  · have H26 := H24 c23
    exact H26
  · have H27 := H25 c23
    refine Wp.iconst d_Law_361 (by decide) ?_
    exact H27.elim
theorem s_Law_363 {l : Launch} {G : GT} {Q : Option MV → MM → Nat → Prop} {m : MM} (x3 : Int) (H : wfM m → inR x3 → (inR (x3 + 1)) ∧ ((0 ≤ (x3 + 1) ∧ (x3 + 1) < (g_L G : Int)) ∧ (∃ (e5 : Nat) (P6 : Int → MM → Prop), e5 < 400 ∧ CI l G Y_S_fault e5 [.inr (.inr 0), .inl (g_x G ((x3 + 1)).toNat)] m P6 ∧ (∀ z11 m12, P6 z11 m12 → inR z11 → wfM m12 → ((inR (x3 + 1)) ∧ ((0 ≤ (x3 + 1) ∧ (x3 + 1) < (g_L G : Int)) ∧ (∃ (e20 : Nat) (P21 : Int → MM → Prop), e20 < 400 ∧ CI l G Y_M_fault e20 [.inr (.inr 70), .inl (g_x G ((x3 + 1)).toNat)] m12 P21 ∧ (∀ z26 m27, P21 z26 m27 → inR z26 → wfM m27 → ((z11 = z26 → (Wq l G true Y_Law 400 Q 1542 [(0, .inr (.inr 1000)), (1, .inr (.inr 0)), (2, .inr (.inr 70)), (3, .inl x3)] [] m27)) ∧ (¬ (z11 = z26) → (False))))))))))) : Wq l G true Y_Law 400 Q 363 [(0, .inr (.inr 1000)), (1, .inr (.inr 0)), (2, .inr (.inr 70)), (3, .inl x3)] [] m := by
  refine Wp.wf (fun hw _ hl hs => ?_)
  have H0 := H hw (hl _ (List.mem_of_getElem? (i := 3) rfl))
  refine Wp.aload_n 1 1 d_Law_363 rfl rfl ?_
  refine Wp.aload_n 0 0 d_Law_364 rfl rfl ?_
  refine Wp.iload_n 3 3 d_Law_365 rfl rfl ?_
  refine Wp.iconst d_Law_366 (by decide) ?_
  obtain ⟨s1, H2⟩ := H0
  refine Wp.iadd d_Law_367 s1 ?_
  obtain ⟨s3, H4⟩ := H2
  refine Wp.sald d_Law_368 s3.1 s3.2 ?_
  obtain ⟨e5, P6, hd7, ho8, H9⟩ := H4
  refine Wq.VI (st := []) [.inl (g_x G ((x3 + 1)).toNat)] d_Law_369 k_S_fault ml_Law_28 rfl rfl rfl (fun _ => by decide) (Nat.le_of_ble_eq_true rfl) hd7 ho8 (fun z11 m12 hp13 hz14 hw15 => ?_)
  have H10 := H9 z11 m12 hp13 hz14 hw15
  refine Wp.aload_n 2 2 d_Law_372 rfl rfl ?_
  refine Wp.aload_n 0 0 d_Law_373 rfl rfl ?_
  refine Wp.iload_n 3 3 d_Law_374 rfl rfl ?_
  refine Wp.iconst d_Law_375 (by decide) ?_
  obtain ⟨s16, H17⟩ := H10
  refine Wp.iadd d_Law_376 s16 ?_
  obtain ⟨s18, H19⟩ := H17
  refine Wp.sald d_Law_377 s18.1 s18.2 ?_
  obtain ⟨e20, P21, hd22, ho23, H24⟩ := H19
  refine Wq.VI (st := [.inl z11]) [.inl (g_x G ((x3 + 1)).toNat)] d_Law_378 k_M_fault ml_Law_31 rfl rfl rfl (fun _ => by decide) (Nat.le_of_ble_eq_true rfl) hd22 ho23 (fun z26 m27 hp28 hz29 hw30 => ?_)
  have H25 := H24 z26 m27 hp28 hz29 hw30
  obtain ⟨H32, H33⟩ := H25
  refine Wp.icmp_eq 1542 d_Law_381 (by decide) (fun c31 => ?_) (fun c31 => ?_)
  · have H34 := H32 c31
    exact H34
  · have H35 := H33 c31
    refine Wp.iconst d_Law_384 (by decide) ?_
    exact H35.elim
theorem s_Law_386 {l : Launch} {G : GT} {Q : Option MV → MM → Nat → Prop} {m : MM} (x3 : Int) (H : wfM m → inR x3 → (inR (x3 + 1)) ∧ ((0 ≤ (x3 + 1) ∧ (x3 + 1) < (g_L G : Int)) ∧ ((inR (x3 + 2)) ∧ ((0 ≤ (x3 + 2) ∧ (x3 + 2) < (g_L G : Int)) ∧ (∃ (e9 : Nat) (P10 : Int → MM → Prop), e9 < 400 ∧ CI l G Y_S_plate e9 [.inr (.inr 0), .inl (g_x G ((x3 + 1)).toNat), .inl (g_x G ((x3 + 2)).toNat)] m P10 ∧ (∀ z15 m16, P10 z15 m16 → inR z15 → wfM m16 → ((inR (x3 + 1)) ∧ ((0 ≤ (x3 + 1) ∧ (x3 + 1) < (g_L G : Int)) ∧ ((inR (x3 + 2)) ∧ ((0 ≤ (x3 + 2) ∧ (x3 + 2) < (g_L G : Int)) ∧ (∃ (e28 : Nat) (P29 : Int → MM → Prop), e28 < 400 ∧ CI l G Y_M_plate e28 [.inr (.inr 70), .inl (g_x G ((x3 + 1)).toNat), .inl (g_x G ((x3 + 2)).toNat)] m16 P29 ∧ (∀ z34 m35, P29 z34 m35 → inR z34 → wfM m35 → ((z15 = z34 → (Wq l G true Y_Law 400 Q 1542 [(0, .inr (.inr 1000)), (1, .inr (.inr 0)), (2, .inr (.inr 70)), (3, .inl x3)] [] m35)) ∧ (¬ (z15 = z34) → (False))))))))))))))) : Wq l G true Y_Law 400 Q 386 [(0, .inr (.inr 1000)), (1, .inr (.inr 0)), (2, .inr (.inr 70)), (3, .inl x3)] [] m := by
  refine Wp.wf (fun hw _ hl hs => ?_)
  have H0 := H hw (hl _ (List.mem_of_getElem? (i := 3) rfl))
  refine Wp.aload_n 1 1 d_Law_386 rfl rfl ?_
  refine Wp.aload_n 0 0 d_Law_387 rfl rfl ?_
  refine Wp.iload_n 3 3 d_Law_388 rfl rfl ?_
  refine Wp.iconst d_Law_389 (by decide) ?_
  obtain ⟨s1, H2⟩ := H0
  refine Wp.iadd d_Law_390 s1 ?_
  obtain ⟨s3, H4⟩ := H2
  refine Wp.sald d_Law_391 s3.1 s3.2 ?_
  refine Wp.aload_n 0 0 d_Law_392 rfl rfl ?_
  refine Wp.iload_n 3 3 d_Law_393 rfl rfl ?_
  refine Wp.iconst d_Law_394 (by decide) ?_
  obtain ⟨s5, H6⟩ := H4
  refine Wp.iadd d_Law_395 s5 ?_
  obtain ⟨s7, H8⟩ := H6
  refine Wp.sald d_Law_396 s7.1 s7.2 ?_
  obtain ⟨e9, P10, hd11, ho12, H13⟩ := H8
  refine Wq.VI (st := []) [.inl (g_x G ((x3 + 1)).toNat), .inl (g_x G ((x3 + 2)).toNat)] d_Law_397 k_S_plate ml_Law_32 rfl rfl rfl (fun _ => by decide) (Nat.le_of_ble_eq_true rfl) hd11 ho12 (fun z15 m16 hp17 hz18 hw19 => ?_)
  have H14 := H13 z15 m16 hp17 hz18 hw19
  refine Wp.aload_n 2 2 d_Law_400 rfl rfl ?_
  refine Wp.aload_n 0 0 d_Law_401 rfl rfl ?_
  refine Wp.iload_n 3 3 d_Law_402 rfl rfl ?_
  refine Wp.iconst d_Law_403 (by decide) ?_
  obtain ⟨s20, H21⟩ := H14
  refine Wp.iadd d_Law_404 s20 ?_
  obtain ⟨s22, H23⟩ := H21
  refine Wp.sald d_Law_405 s22.1 s22.2 ?_
  refine Wp.aload_n 0 0 d_Law_406 rfl rfl ?_
  refine Wp.iload_n 3 3 d_Law_407 rfl rfl ?_
  refine Wp.iconst d_Law_408 (by decide) ?_
  obtain ⟨s24, H25⟩ := H23
  refine Wp.iadd d_Law_409 s24 ?_
  obtain ⟨s26, H27⟩ := H25
  refine Wp.sald d_Law_410 s26.1 s26.2 ?_
  obtain ⟨e28, P29, hd30, ho31, H32⟩ := H27
  refine Wq.VI (st := [.inl z15]) [.inl (g_x G ((x3 + 1)).toNat), .inl (g_x G ((x3 + 2)).toNat)] d_Law_411 k_M_plate ml_Law_36 rfl rfl rfl (fun _ => by decide) (Nat.le_of_ble_eq_true rfl) hd30 ho31 (fun z34 m35 hp36 hz37 hw38 => ?_)
  have H33 := H32 z34 m35 hp36 hz37 hw38
  obtain ⟨H40, H41⟩ := H33
  refine Wp.icmp_eq 1542 d_Law_414 (by decide) (fun c39 => ?_) (fun c39 => ?_)
  · have H42 := H40 c39
    exact H42
  · have H43 := H41 c39
    refine Wp.iconst d_Law_417 (by decide) ?_
    exact H43.elim
theorem s_Law_419 {l : Launch} {G : GT} {Q : Option MV → MM → Nat → Prop} {m : MM} (x3 : Int) (H : wfM m → inR x3 → (inR (x3 + 1)) ∧ ((0 ≤ (x3 + 1) ∧ (x3 + 1) < (g_L G : Int)) ∧ ((inR (x3 + 2)) ∧ ((0 ≤ (x3 + 2) ∧ (x3 + 2) < (g_L G : Int)) ∧ (∃ (e9 : Nat) (P10 : Int → MM → Prop), e9 < 400 ∧ CI l G Y_S_wide e9 [.inr (.inr 0), .inl (g_x G ((x3 + 1)).toNat), .inl (g_x G ((x3 + 2)).toNat)] m P10 ∧ (∀ z15 m16, P10 z15 m16 → inR z15 → wfM m16 → ((inR (x3 + 1)) ∧ ((0 ≤ (x3 + 1) ∧ (x3 + 1) < (g_L G : Int)) ∧ ((inR (x3 + 2)) ∧ ((0 ≤ (x3 + 2) ∧ (x3 + 2) < (g_L G : Int)) ∧ (∃ (e28 : Nat) (P29 : Int → MM → Prop), e28 < 400 ∧ CI l G Y_M_wide e28 [.inr (.inr 70), .inl (g_x G ((x3 + 1)).toNat), .inl (g_x G ((x3 + 2)).toNat)] m16 P29 ∧ (∀ z34 m35, P29 z34 m35 → inR z34 → wfM m35 → ((z15 = z34 → (Wq l G true Y_Law 400 Q 1542 [(0, .inr (.inr 1000)), (1, .inr (.inr 0)), (2, .inr (.inr 70)), (3, .inl x3)] [] m35)) ∧ (¬ (z15 = z34) → (False))))))))))))))) : Wq l G true Y_Law 400 Q 419 [(0, .inr (.inr 1000)), (1, .inr (.inr 0)), (2, .inr (.inr 70)), (3, .inl x3)] [] m := by
  refine Wp.wf (fun hw _ hl hs => ?_)
  have H0 := H hw (hl _ (List.mem_of_getElem? (i := 3) rfl))
  refine Wp.aload_n 1 1 d_Law_419 rfl rfl ?_
  refine Wp.aload_n 0 0 d_Law_420 rfl rfl ?_
  refine Wp.iload_n 3 3 d_Law_421 rfl rfl ?_
  refine Wp.iconst d_Law_422 (by decide) ?_
  obtain ⟨s1, H2⟩ := H0
  refine Wp.iadd d_Law_423 s1 ?_
  obtain ⟨s3, H4⟩ := H2
  refine Wp.sald d_Law_424 s3.1 s3.2 ?_
  refine Wp.aload_n 0 0 d_Law_425 rfl rfl ?_
  refine Wp.iload_n 3 3 d_Law_426 rfl rfl ?_
  refine Wp.iconst d_Law_427 (by decide) ?_
  obtain ⟨s5, H6⟩ := H4
  refine Wp.iadd d_Law_428 s5 ?_
  obtain ⟨s7, H8⟩ := H6
  refine Wp.sald d_Law_429 s7.1 s7.2 ?_
  obtain ⟨e9, P10, hd11, ho12, H13⟩ := H8
  refine Wq.VI (st := []) [.inl (g_x G ((x3 + 1)).toNat), .inl (g_x G ((x3 + 2)).toNat)] d_Law_430 k_S_wide ml_Law_37 rfl rfl rfl (fun _ => by decide) (Nat.le_of_ble_eq_true rfl) hd11 ho12 (fun z15 m16 hp17 hz18 hw19 => ?_)
  have H14 := H13 z15 m16 hp17 hz18 hw19
  refine Wp.aload_n 2 2 d_Law_433 rfl rfl ?_
  refine Wp.aload_n 0 0 d_Law_434 rfl rfl ?_
  refine Wp.iload_n 3 3 d_Law_435 rfl rfl ?_
  refine Wp.iconst d_Law_436 (by decide) ?_
  obtain ⟨s20, H21⟩ := H14
  refine Wp.iadd d_Law_437 s20 ?_
  obtain ⟨s22, H23⟩ := H21
  refine Wp.sald d_Law_438 s22.1 s22.2 ?_
  refine Wp.aload_n 0 0 d_Law_439 rfl rfl ?_
  refine Wp.iload_n 3 3 d_Law_440 rfl rfl ?_
  refine Wp.iconst d_Law_441 (by decide) ?_
  obtain ⟨s24, H25⟩ := H23
  refine Wp.iadd d_Law_442 s24 ?_
  obtain ⟨s26, H27⟩ := H25
  refine Wp.sald d_Law_443 s26.1 s26.2 ?_
  obtain ⟨e28, P29, hd30, ho31, H32⟩ := H27
  refine Wq.VI (st := [.inl z15]) [.inl (g_x G ((x3 + 1)).toNat), .inl (g_x G ((x3 + 2)).toNat)] d_Law_444 k_M_wide ml_Law_40 rfl rfl rfl (fun _ => by decide) (Nat.le_of_ble_eq_true rfl) hd30 ho31 (fun z34 m35 hp36 hz37 hw38 => ?_)
  have H33 := H32 z34 m35 hp36 hz37 hw38
  obtain ⟨H40, H41⟩ := H33
  refine Wp.icmp_eq 1542 d_Law_447 (by decide) (fun c39 => ?_) (fun c39 => ?_)
  · have H42 := H40 c39
    exact H42
  · have H43 := H41 c39
    refine Wp.iconst d_Law_450 (by decide) ?_
    exact H43.elim
theorem s_Law_452 {l : Launch} {G : GT} {Q : Option MV → MM → Nat → Prop} {m : MM} (x3 : Int) (H : wfM m → inR x3 → (inR (x3 + 1)) ∧ ((0 ≤ (x3 + 1) ∧ (x3 + 1) < (g_L G : Int)) ∧ (∃ (e5 : Nat) (P6 : Int → MM → Prop), e5 < 400 ∧ CI l G Y_S_far e5 [.inr (.inr 0), .inl (g_x G ((x3 + 1)).toNat)] m P6 ∧ (∀ z11 m12, P6 z11 m12 → inR z11 → wfM m12 → ((inR (x3 + 1)) ∧ ((0 ≤ (x3 + 1) ∧ (x3 + 1) < (g_L G : Int)) ∧ (∃ (e20 : Nat) (P21 : Int → MM → Prop), e20 < 400 ∧ CI l G Y_M_far e20 [.inr (.inr 70), .inl (g_x G ((x3 + 1)).toNat)] m12 P21 ∧ (∀ z26 m27, P21 z26 m27 → inR z26 → wfM m27 → ((z11 = z26 → (Wq l G true Y_Law 400 Q 1542 [(0, .inr (.inr 1000)), (1, .inr (.inr 0)), (2, .inr (.inr 70)), (3, .inl x3)] [] m27)) ∧ (¬ (z11 = z26) → (False))))))))))) : Wq l G true Y_Law 400 Q 452 [(0, .inr (.inr 1000)), (1, .inr (.inr 0)), (2, .inr (.inr 70)), (3, .inl x3)] [] m := by
  refine Wp.wf (fun hw _ hl hs => ?_)
  have H0 := H hw (hl _ (List.mem_of_getElem? (i := 3) rfl))
  refine Wp.aload_n 1 1 d_Law_452 rfl rfl ?_
  refine Wp.aload_n 0 0 d_Law_453 rfl rfl ?_
  refine Wp.iload_n 3 3 d_Law_454 rfl rfl ?_
  refine Wp.iconst d_Law_455 (by decide) ?_
  obtain ⟨s1, H2⟩ := H0
  refine Wp.iadd d_Law_456 s1 ?_
  obtain ⟨s3, H4⟩ := H2
  refine Wp.sald d_Law_457 s3.1 s3.2 ?_
  obtain ⟨e5, P6, hd7, ho8, H9⟩ := H4
  refine Wq.VI (st := []) [.inl (g_x G ((x3 + 1)).toNat)] d_Law_458 k_S_far ml_Law_41 rfl rfl rfl (fun _ => by decide) (Nat.le_of_ble_eq_true rfl) hd7 ho8 (fun z11 m12 hp13 hz14 hw15 => ?_)
  have H10 := H9 z11 m12 hp13 hz14 hw15
  refine Wp.aload_n 2 2 d_Law_461 rfl rfl ?_
  refine Wp.aload_n 0 0 d_Law_462 rfl rfl ?_
  refine Wp.iload_n 3 3 d_Law_463 rfl rfl ?_
  refine Wp.iconst d_Law_464 (by decide) ?_
  obtain ⟨s16, H17⟩ := H10
  refine Wp.iadd d_Law_465 s16 ?_
  obtain ⟨s18, H19⟩ := H17
  refine Wp.sald d_Law_466 s18.1 s18.2 ?_
  obtain ⟨e20, P21, hd22, ho23, H24⟩ := H19
  refine Wq.VI (st := [.inl z11]) [.inl (g_x G ((x3 + 1)).toNat)] d_Law_467 k_M_far ml_Law_44 rfl rfl rfl (fun _ => by decide) (Nat.le_of_ble_eq_true rfl) hd22 ho23 (fun z26 m27 hp28 hz29 hw30 => ?_)
  have H25 := H24 z26 m27 hp28 hz29 hw30
  obtain ⟨H32, H33⟩ := H25
  refine Wp.icmp_eq 1542 d_Law_470 (by decide) (fun c31 => ?_) (fun c31 => ?_)
  · have H34 := H32 c31
    exact H34
  · have H35 := H33 c31
    refine Wp.iconst d_Law_473 (by decide) ?_
    exact H35.elim
theorem s_Law_475 {l : Launch} {G : GT} {Q : Option MV → MM → Nat → Prop} {m : MM} (x3 : Int) (H : wfM m → inR x3 → ∃ (e1 : Nat) (P2 : Int → MM → Prop), e1 < 400 ∧ CI l G Y_S_day e1 [.inr (.inr 0)] m P2 ∧ (∀ z7 m8, P2 z7 m8 → inR z7 → wfM m8 → (∃ (e12 : Nat) (P13 : Int → MM → Prop), e12 < 400 ∧ CI l G Y_M_day e12 [.inr (.inr 70)] m8 P13 ∧ (∀ z18 m19, P13 z18 m19 → inR z18 → wfM m19 → ((z7 = z18 → (Wq l G true Y_Law 400 Q 1542 [(0, .inr (.inr 1000)), (1, .inr (.inr 0)), (2, .inr (.inr 70)), (3, .inl x3)] [] m19)) ∧ (¬ (z7 = z18) → (False))))))) : Wq l G true Y_Law 400 Q 475 [(0, .inr (.inr 1000)), (1, .inr (.inr 0)), (2, .inr (.inr 70)), (3, .inl x3)] [] m := by
  refine Wp.wf (fun hw _ hl hs => ?_)
  have H0 := H hw (hl _ (List.mem_of_getElem? (i := 3) rfl))
  refine Wp.aload_n 1 1 d_Law_475 rfl rfl ?_
  obtain ⟨e1, P2, hd3, ho4, H5⟩ := H0
  refine Wq.VI (st := []) [] d_Law_476 k_S_day ml_Law_45 rfl rfl rfl (fun _ => by decide) (Nat.le_of_ble_eq_true rfl) hd3 ho4 (fun z7 m8 hp9 hz10 hw11 => ?_)
  have H6 := H5 z7 m8 hp9 hz10 hw11
  refine Wp.aload_n 2 2 d_Law_479 rfl rfl ?_
  obtain ⟨e12, P13, hd14, ho15, H16⟩ := H6
  refine Wq.VI (st := [.inl z7]) [] d_Law_480 k_M_day ml_Law_48 rfl rfl rfl (fun _ => by decide) (Nat.le_of_ble_eq_true rfl) hd14 ho15 (fun z18 m19 hp20 hz21 hw22 => ?_)
  have H17 := H16 z18 m19 hp20 hz21 hw22
  obtain ⟨H24, H25⟩ := H17
  refine Wp.icmp_eq 1542 d_Law_483 (by decide) (fun c23 => ?_) (fun c23 => ?_)
  · have H26 := H24 c23
    exact H26
  · have H27 := H25 c23
    refine Wp.iconst d_Law_486 (by decide) ?_
    exact H27.elim
theorem s_Law_488 {l : Launch} {G : GT} {Q : Option MV → MM → Nat → Prop} {m : MM} (x3 : Int) (H : wfM m → inR x3 → (inR (x3 + 1)) ∧ ((0 ≤ (x3 + 1) ∧ (x3 + 1) < (g_L G : Int)) ∧ ((inR (x3 + 2)) ∧ ((0 ≤ (x3 + 2) ∧ (x3 + 2) < (g_L G : Int)) ∧ (∃ (e9 : Nat) (P10 : Int → MM → Prop), e9 < 400 ∧ CI l G Y_S_drop e9 [.inr (.inr 0), .inl (g_x G ((x3 + 1)).toNat), .inl (g_x G ((x3 + 2)).toNat)] m P10 ∧ (∀ z15 m16, P10 z15 m16 → inR z15 → wfM m16 → ((inR (x3 + 1)) ∧ ((0 ≤ (x3 + 1) ∧ (x3 + 1) < (g_L G : Int)) ∧ ((inR (x3 + 2)) ∧ ((0 ≤ (x3 + 2) ∧ (x3 + 2) < (g_L G : Int)) ∧ (∃ (e28 : Nat) (P29 : Int → MM → Prop), e28 < 400 ∧ CI l G Y_M_drop e28 [.inr (.inr 70), .inl (g_x G ((x3 + 1)).toNat), .inl (g_x G ((x3 + 2)).toNat)] m16 P29 ∧ (∀ z34 m35, P29 z34 m35 → inR z34 → wfM m35 → ((z15 = z34 → (Wq l G true Y_Law 400 Q 1542 [(0, .inr (.inr 1000)), (1, .inr (.inr 0)), (2, .inr (.inr 70)), (3, .inl x3)] [] m35)) ∧ (¬ (z15 = z34) → (False))))))))))))))) : Wq l G true Y_Law 400 Q 488 [(0, .inr (.inr 1000)), (1, .inr (.inr 0)), (2, .inr (.inr 70)), (3, .inl x3)] [] m := by
  refine Wp.wf (fun hw _ hl hs => ?_)
  have H0 := H hw (hl _ (List.mem_of_getElem? (i := 3) rfl))
  refine Wp.aload_n 1 1 d_Law_488 rfl rfl ?_
  refine Wp.aload_n 0 0 d_Law_489 rfl rfl ?_
  refine Wp.iload_n 3 3 d_Law_490 rfl rfl ?_
  refine Wp.iconst d_Law_491 (by decide) ?_
  obtain ⟨s1, H2⟩ := H0
  refine Wp.iadd d_Law_492 s1 ?_
  obtain ⟨s3, H4⟩ := H2
  refine Wp.sald d_Law_493 s3.1 s3.2 ?_
  refine Wp.aload_n 0 0 d_Law_494 rfl rfl ?_
  refine Wp.iload_n 3 3 d_Law_495 rfl rfl ?_
  refine Wp.iconst d_Law_496 (by decide) ?_
  obtain ⟨s5, H6⟩ := H4
  refine Wp.iadd d_Law_497 s5 ?_
  obtain ⟨s7, H8⟩ := H6
  refine Wp.sald d_Law_498 s7.1 s7.2 ?_
  obtain ⟨e9, P10, hd11, ho12, H13⟩ := H8
  refine Wq.VI (st := []) [.inl (g_x G ((x3 + 1)).toNat), .inl (g_x G ((x3 + 2)).toNat)] d_Law_499 k_S_drop ml_Law_49 rfl rfl rfl (fun _ => by decide) (Nat.le_of_ble_eq_true rfl) hd11 ho12 (fun z15 m16 hp17 hz18 hw19 => ?_)
  have H14 := H13 z15 m16 hp17 hz18 hw19
  refine Wp.aload_n 2 2 d_Law_502 rfl rfl ?_
  refine Wp.aload_n 0 0 d_Law_503 rfl rfl ?_
  refine Wp.iload_n 3 3 d_Law_504 rfl rfl ?_
  refine Wp.iconst d_Law_505 (by decide) ?_
  obtain ⟨s20, H21⟩ := H14
  refine Wp.iadd d_Law_506 s20 ?_
  obtain ⟨s22, H23⟩ := H21
  refine Wp.sald d_Law_507 s22.1 s22.2 ?_
  refine Wp.aload_n 0 0 d_Law_508 rfl rfl ?_
  refine Wp.iload_n 3 3 d_Law_509 rfl rfl ?_
  refine Wp.iconst d_Law_510 (by decide) ?_
  obtain ⟨s24, H25⟩ := H23
  refine Wp.iadd d_Law_511 s24 ?_
  obtain ⟨s26, H27⟩ := H25
  refine Wp.sald d_Law_512 s26.1 s26.2 ?_
  obtain ⟨e28, P29, hd30, ho31, H32⟩ := H27
  refine Wq.VI (st := [.inl z15]) [.inl (g_x G ((x3 + 1)).toNat), .inl (g_x G ((x3 + 2)).toNat)] d_Law_513 k_M_drop ml_Law_52 rfl rfl rfl (fun _ => by decide) (Nat.le_of_ble_eq_true rfl) hd30 ho31 (fun z34 m35 hp36 hz37 hw38 => ?_)
  have H33 := H32 z34 m35 hp36 hz37 hw38
  obtain ⟨H40, H41⟩ := H33
  refine Wp.icmp_eq 1542 d_Law_516 (by decide) (fun c39 => ?_) (fun c39 => ?_)
  · have H42 := H40 c39
    exact H42
  · have H43 := H41 c39
    refine Wp.iconst d_Law_519 (by decide) ?_
    exact H43.elim
theorem s_Law_521 {l : Launch} {G : GT} {Q : Option MV → MM → Nat → Prop} {m : MM} (x3 : Int) (H : wfM m → inR x3 → (inR (x3 + 1)) ∧ ((0 ≤ (x3 + 1) ∧ (x3 + 1) < (g_L G : Int)) ∧ (∃ (e5 : Nat) (P6 : Int → MM → Prop), e5 < 400 ∧ CI l G Y_S_topple e5 [.inr (.inr 0), .inl (g_x G ((x3 + 1)).toNat)] m P6 ∧ (∀ z11 m12, P6 z11 m12 → inR z11 → wfM m12 → ((inR (x3 + 1)) ∧ ((0 ≤ (x3 + 1) ∧ (x3 + 1) < (g_L G : Int)) ∧ (∃ (e20 : Nat) (P21 : Int → MM → Prop), e20 < 400 ∧ CI l G Y_M_topple e20 [.inr (.inr 70), .inl (g_x G ((x3 + 1)).toNat)] m12 P21 ∧ (∀ z26 m27, P21 z26 m27 → inR z26 → wfM m27 → ((z11 = z26 → (Wq l G true Y_Law 400 Q 1542 [(0, .inr (.inr 1000)), (1, .inr (.inr 0)), (2, .inr (.inr 70)), (3, .inl x3)] [] m27)) ∧ (¬ (z11 = z26) → (False))))))))))) : Wq l G true Y_Law 400 Q 521 [(0, .inr (.inr 1000)), (1, .inr (.inr 0)), (2, .inr (.inr 70)), (3, .inl x3)] [] m := by
  refine Wp.wf (fun hw _ hl hs => ?_)
  have H0 := H hw (hl _ (List.mem_of_getElem? (i := 3) rfl))
  refine Wp.aload_n 1 1 d_Law_521 rfl rfl ?_
  refine Wp.aload_n 0 0 d_Law_522 rfl rfl ?_
  refine Wp.iload_n 3 3 d_Law_523 rfl rfl ?_
  refine Wp.iconst d_Law_524 (by decide) ?_
  obtain ⟨s1, H2⟩ := H0
  refine Wp.iadd d_Law_525 s1 ?_
  obtain ⟨s3, H4⟩ := H2
  refine Wp.sald d_Law_526 s3.1 s3.2 ?_
  obtain ⟨e5, P6, hd7, ho8, H9⟩ := H4
  refine Wq.VI (st := []) [.inl (g_x G ((x3 + 1)).toNat)] d_Law_527 k_S_topple ml_Law_53 rfl rfl rfl (fun _ => by decide) (Nat.le_of_ble_eq_true rfl) hd7 ho8 (fun z11 m12 hp13 hz14 hw15 => ?_)
  have H10 := H9 z11 m12 hp13 hz14 hw15
  refine Wp.aload_n 2 2 d_Law_530 rfl rfl ?_
  refine Wp.aload_n 0 0 d_Law_531 rfl rfl ?_
  refine Wp.iload_n 3 3 d_Law_532 rfl rfl ?_
  refine Wp.iconst d_Law_533 (by decide) ?_
  obtain ⟨s16, H17⟩ := H10
  refine Wp.iadd d_Law_534 s16 ?_
  obtain ⟨s18, H19⟩ := H17
  refine Wp.sald d_Law_535 s18.1 s18.2 ?_
  obtain ⟨e20, P21, hd22, ho23, H24⟩ := H19
  refine Wq.VI (st := [.inl z11]) [.inl (g_x G ((x3 + 1)).toNat)] d_Law_536 k_M_topple ml_Law_56 rfl rfl rfl (fun _ => by decide) (Nat.le_of_ble_eq_true rfl) hd22 ho23 (fun z26 m27 hp28 hz29 hw30 => ?_)
  have H25 := H24 z26 m27 hp28 hz29 hw30
  obtain ⟨H32, H33⟩ := H25
  refine Wp.icmp_eq 1542 d_Law_539 (by decide) (fun c31 => ?_) (fun c31 => ?_)
  · have H34 := H32 c31
    exact H34
  · have H35 := H33 c31
    refine Wp.iconst d_Law_542 (by decide) ?_
    exact H35.elim
theorem s_Law_544 {l : Launch} {G : GT} {Q : Option MV → MM → Nat → Prop} {m : MM} (x3 : Int) (H : wfM m → inR x3 → ∃ (e1 : Nat) (P2 : Int → MM → Prop), e1 < 400 ∧ CI l G Y_S_settle e1 [.inr (.inr 0)] m P2 ∧ (∀ z7 m8, P2 z7 m8 → inR z7 → wfM m8 → (∃ (e12 : Nat) (P13 : Int → MM → Prop), e12 < 400 ∧ CI l G Y_M_settle e12 [.inr (.inr 70)] m8 P13 ∧ (∀ z18 m19, P13 z18 m19 → inR z18 → wfM m19 → ((z7 = z18 → (Wq l G true Y_Law 400 Q 1542 [(0, .inr (.inr 1000)), (1, .inr (.inr 0)), (2, .inr (.inr 70)), (3, .inl x3)] [] m19)) ∧ (¬ (z7 = z18) → (False))))))) : Wq l G true Y_Law 400 Q 544 [(0, .inr (.inr 1000)), (1, .inr (.inr 0)), (2, .inr (.inr 70)), (3, .inl x3)] [] m := by
  refine Wp.wf (fun hw _ hl hs => ?_)
  have H0 := H hw (hl _ (List.mem_of_getElem? (i := 3) rfl))
  refine Wp.aload_n 1 1 d_Law_544 rfl rfl ?_
  obtain ⟨e1, P2, hd3, ho4, H5⟩ := H0
  refine Wq.VI (st := []) [] d_Law_545 k_S_settle ml_Law_57 rfl rfl rfl (fun _ => by decide) (Nat.le_of_ble_eq_true rfl) hd3 ho4 (fun z7 m8 hp9 hz10 hw11 => ?_)
  have H6 := H5 z7 m8 hp9 hz10 hw11
  refine Wp.aload_n 2 2 d_Law_548 rfl rfl ?_
  obtain ⟨e12, P13, hd14, ho15, H16⟩ := H6
  refine Wq.VI (st := [.inl z7]) [] d_Law_549 k_M_settle ml_Law_60 rfl rfl rfl (fun _ => by decide) (Nat.le_of_ble_eq_true rfl) hd14 ho15 (fun z18 m19 hp20 hz21 hw22 => ?_)
  have H17 := H16 z18 m19 hp20 hz21 hw22
  obtain ⟨H24, H25⟩ := H17
  refine Wp.icmp_eq 1542 d_Law_552 (by decide) (fun c23 => ?_) (fun c23 => ?_)
  · have H26 := H24 c23
    exact H26
  · have H27 := H25 c23
    refine Wp.iconst d_Law_555 (by decide) ?_
    exact H27.elim
theorem s_Law_557 {l : Launch} {G : GT} {Q : Option MV → MM → Nat → Prop} {m : MM} (x3 : Int) (H : wfM m → inR x3 → (inR (x3 + 1)) ∧ ((0 ≤ (x3 + 1) ∧ (x3 + 1) < (g_L G : Int)) ∧ (∃ (e5 : Nat) (P6 : Int → MM → Prop), e5 < 400 ∧ CI l G Y_S_sweep e5 [.inr (.inr 0), .inl (g_x G ((x3 + 1)).toNat)] m P6 ∧ (∀ z11 m12, P6 z11 m12 → inR z11 → wfM m12 → ((inR (x3 + 1)) ∧ ((0 ≤ (x3 + 1) ∧ (x3 + 1) < (g_L G : Int)) ∧ (∃ (e20 : Nat) (P21 : Int → MM → Prop), e20 < 400 ∧ CI l G Y_M_sweep e20 [.inr (.inr 70), .inl (g_x G ((x3 + 1)).toNat)] m12 P21 ∧ (∀ z26 m27, P21 z26 m27 → inR z26 → wfM m27 → ((z11 = z26 → (Wq l G true Y_Law 400 Q 1542 [(0, .inr (.inr 1000)), (1, .inr (.inr 0)), (2, .inr (.inr 70)), (3, .inl x3)] [] m27)) ∧ (¬ (z11 = z26) → (False))))))))))) : Wq l G true Y_Law 400 Q 557 [(0, .inr (.inr 1000)), (1, .inr (.inr 0)), (2, .inr (.inr 70)), (3, .inl x3)] [] m := by
  refine Wp.wf (fun hw _ hl hs => ?_)
  have H0 := H hw (hl _ (List.mem_of_getElem? (i := 3) rfl))
  refine Wp.aload_n 1 1 d_Law_557 rfl rfl ?_
  refine Wp.aload_n 0 0 d_Law_558 rfl rfl ?_
  refine Wp.iload_n 3 3 d_Law_559 rfl rfl ?_
  refine Wp.iconst d_Law_560 (by decide) ?_
  obtain ⟨s1, H2⟩ := H0
  refine Wp.iadd d_Law_561 s1 ?_
  obtain ⟨s3, H4⟩ := H2
  refine Wp.sald d_Law_562 s3.1 s3.2 ?_
  obtain ⟨e5, P6, hd7, ho8, H9⟩ := H4
  refine Wq.VI (st := []) [.inl (g_x G ((x3 + 1)).toNat)] d_Law_563 k_S_sweep ml_Law_61 rfl rfl rfl (fun _ => by decide) (Nat.le_of_ble_eq_true rfl) hd7 ho8 (fun z11 m12 hp13 hz14 hw15 => ?_)
  have H10 := H9 z11 m12 hp13 hz14 hw15
  refine Wp.aload_n 2 2 d_Law_566 rfl rfl ?_
  refine Wp.aload_n 0 0 d_Law_567 rfl rfl ?_
  refine Wp.iload_n 3 3 d_Law_568 rfl rfl ?_
  refine Wp.iconst d_Law_569 (by decide) ?_
  obtain ⟨s16, H17⟩ := H10
  refine Wp.iadd d_Law_570 s16 ?_
  obtain ⟨s18, H19⟩ := H17
  refine Wp.sald d_Law_571 s18.1 s18.2 ?_
  obtain ⟨e20, P21, hd22, ho23, H24⟩ := H19
  refine Wq.VI (st := [.inl z11]) [.inl (g_x G ((x3 + 1)).toNat)] d_Law_572 k_M_sweep ml_Law_64 rfl rfl rfl (fun _ => by decide) (Nat.le_of_ble_eq_true rfl) hd22 ho23 (fun z26 m27 hp28 hz29 hw30 => ?_)
  have H25 := H24 z26 m27 hp28 hz29 hw30
  obtain ⟨H32, H33⟩ := H25
  refine Wp.icmp_eq 1542 d_Law_575 (by decide) (fun c31 => ?_) (fun c31 => ?_)
  · have H34 := H32 c31
    exact H34
  · have H35 := H33 c31
    refine Wp.iconst d_Law_578 (by decide) ?_
    exact H35.elim
theorem s_Law_580 {l : Launch} {G : GT} {Q : Option MV → MM → Nat → Prop} {m : MM} (x3 : Int) (H : wfM m → inR x3 → ∃ (e1 : Nat) (P2 : Int → MM → Prop), e1 < 400 ∧ CI l G Y_S_undo e1 [.inr (.inr 0)] m P2 ∧ (∀ z7 m8, P2 z7 m8 → inR z7 → wfM m8 → (∃ (e12 : Nat) (P13 : Int → MM → Prop), e12 < 400 ∧ CI l G Y_M_undo e12 [.inr (.inr 70)] m8 P13 ∧ (∀ z18 m19, P13 z18 m19 → inR z18 → wfM m19 → ((z7 = z18 → (Wq l G true Y_Law 400 Q 1542 [(0, .inr (.inr 1000)), (1, .inr (.inr 0)), (2, .inr (.inr 70)), (3, .inl x3)] [] m19)) ∧ (¬ (z7 = z18) → (False))))))) : Wq l G true Y_Law 400 Q 580 [(0, .inr (.inr 1000)), (1, .inr (.inr 0)), (2, .inr (.inr 70)), (3, .inl x3)] [] m := by
  refine Wp.wf (fun hw _ hl hs => ?_)
  have H0 := H hw (hl _ (List.mem_of_getElem? (i := 3) rfl))
  refine Wp.aload_n 1 1 d_Law_580 rfl rfl ?_
  obtain ⟨e1, P2, hd3, ho4, H5⟩ := H0
  refine Wq.VI (st := []) [] d_Law_581 k_S_undo ml_Law_65 rfl rfl rfl (fun _ => by decide) (Nat.le_of_ble_eq_true rfl) hd3 ho4 (fun z7 m8 hp9 hz10 hw11 => ?_)
  have H6 := H5 z7 m8 hp9 hz10 hw11
  refine Wp.aload_n 2 2 d_Law_584 rfl rfl ?_
  obtain ⟨e12, P13, hd14, ho15, H16⟩ := H6
  refine Wq.VI (st := [.inl z7]) [] d_Law_585 k_M_undo ml_Law_69 rfl rfl rfl (fun _ => by decide) (Nat.le_of_ble_eq_true rfl) hd14 ho15 (fun z18 m19 hp20 hz21 hw22 => ?_)
  have H17 := H16 z18 m19 hp20 hz21 hw22
  obtain ⟨H24, H25⟩ := H17
  refine Wp.icmp_eq 1542 d_Law_588 (by decide) (fun c23 => ?_) (fun c23 => ?_)
  · have H26 := H24 c23
    exact H26
  · have H27 := H25 c23
    refine Wp.iconst d_Law_591 (by decide) ?_
    exact H27.elim
theorem s_Law_593 {l : Launch} {G : GT} {Q : Option MV → MM → Nat → Prop} {m : MM} (x3 : Int) (H : wfM m → inR x3 → ∃ (e1 : Nat) (P2 : Int → MM → Prop), e1 < 400 ∧ CI l G Y_S_redo e1 [.inr (.inr 0)] m P2 ∧ (∀ z7 m8, P2 z7 m8 → inR z7 → wfM m8 → (∃ (e12 : Nat) (P13 : Int → MM → Prop), e12 < 400 ∧ CI l G Y_M_redo e12 [.inr (.inr 70)] m8 P13 ∧ (∀ z18 m19, P13 z18 m19 → inR z18 → wfM m19 → ((z7 = z18 → (Wq l G true Y_Law 400 Q 1542 [(0, .inr (.inr 1000)), (1, .inr (.inr 0)), (2, .inr (.inr 70)), (3, .inl x3)] [] m19)) ∧ (¬ (z7 = z18) → (False))))))) : Wq l G true Y_Law 400 Q 593 [(0, .inr (.inr 1000)), (1, .inr (.inr 0)), (2, .inr (.inr 70)), (3, .inl x3)] [] m := by
  refine Wp.wf (fun hw _ hl hs => ?_)
  have H0 := H hw (hl _ (List.mem_of_getElem? (i := 3) rfl))
  refine Wp.aload_n 1 1 d_Law_593 rfl rfl ?_
  obtain ⟨e1, P2, hd3, ho4, H5⟩ := H0
  refine Wq.VI (st := []) [] d_Law_594 k_S_redo ml_Law_70 rfl rfl rfl (fun _ => by decide) (Nat.le_of_ble_eq_true rfl) hd3 ho4 (fun z7 m8 hp9 hz10 hw11 => ?_)
  have H6 := H5 z7 m8 hp9 hz10 hw11
  refine Wp.aload_n 2 2 d_Law_597 rfl rfl ?_
  obtain ⟨e12, P13, hd14, ho15, H16⟩ := H6
  refine Wq.VI (st := [.inl z7]) [] d_Law_598 k_M_redo ml_Law_73 rfl rfl rfl (fun _ => by decide) (Nat.le_of_ble_eq_true rfl) hd14 ho15 (fun z18 m19 hp20 hz21 hw22 => ?_)
  have H17 := H16 z18 m19 hp20 hz21 hw22
  obtain ⟨H24, H25⟩ := H17
  refine Wp.icmp_eq 1542 d_Law_601 (by decide) (fun c23 => ?_) (fun c23 => ?_)
  · have H26 := H24 c23
    exact H26
  · have H27 := H25 c23
    refine Wp.iconst d_Law_604 (by decide) ?_
    exact H27.elim
theorem s_Law_606 {l : Launch} {G : GT} {Q : Option MV → MM → Nat → Prop} {m : MM} (x3 : Int) (H : wfM m → inR x3 → (inR (x3 + 1)) ∧ ((0 ≤ (x3 + 1) ∧ (x3 + 1) < (g_L G : Int)) ∧ ((inR (x3 + 2)) ∧ ((0 ≤ (x3 + 2) ∧ (x3 + 2) < (g_L G : Int)) ∧ ((inR (x3 + 3)) ∧ ((0 ≤ (x3 + 3) ∧ (x3 + 3) < (g_L G : Int)) ∧ (∃ (e13 : Nat) (P14 : Int → MM → Prop), e13 < 400 ∧ CI l G Y_S_will e13 [.inr (.inr 0), .inl (g_x G ((x3 + 1)).toNat), .inl (g_x G ((x3 + 2)).toNat), .inl (g_x G ((x3 + 3)).toNat)] m P14 ∧ (∀ z19 m20, P14 z19 m20 → inR z19 → wfM m20 → ((inR (x3 + 1)) ∧ ((0 ≤ (x3 + 1) ∧ (x3 + 1) < (g_L G : Int)) ∧ ((inR (x3 + 2)) ∧ ((0 ≤ (x3 + 2) ∧ (x3 + 2) < (g_L G : Int)) ∧ ((inR (x3 + 3)) ∧ ((0 ≤ (x3 + 3) ∧ (x3 + 3) < (g_L G : Int)) ∧ (∃ (e36 : Nat) (P37 : Int → MM → Prop), e36 < 400 ∧ CI l G Y_M_will e36 [.inr (.inr 70), .inl (g_x G ((x3 + 1)).toNat), .inl (g_x G ((x3 + 2)).toNat), .inl (g_x G ((x3 + 3)).toNat)] m20 P37 ∧ (∀ z42 m43, P37 z42 m43 → inR z42 → wfM m43 → ((z19 = z42 → (Wq l G true Y_Law 400 Q 1542 [(0, .inr (.inr 1000)), (1, .inr (.inr 0)), (2, .inr (.inr 70)), (3, .inl x3)] [] m43)) ∧ (¬ (z19 = z42) → (False))))))))))))))))))) : Wq l G true Y_Law 400 Q 606 [(0, .inr (.inr 1000)), (1, .inr (.inr 0)), (2, .inr (.inr 70)), (3, .inl x3)] [] m := by
  refine Wp.wf (fun hw _ hl hs => ?_)
  have H0 := H hw (hl _ (List.mem_of_getElem? (i := 3) rfl))
  refine Wp.aload_n 1 1 d_Law_606 rfl rfl ?_
  refine Wp.aload_n 0 0 d_Law_607 rfl rfl ?_
  refine Wp.iload_n 3 3 d_Law_608 rfl rfl ?_
  refine Wp.iconst d_Law_609 (by decide) ?_
  obtain ⟨s1, H2⟩ := H0
  refine Wp.iadd d_Law_610 s1 ?_
  obtain ⟨s3, H4⟩ := H2
  refine Wp.sald d_Law_611 s3.1 s3.2 ?_
  refine Wp.aload_n 0 0 d_Law_612 rfl rfl ?_
  refine Wp.iload_n 3 3 d_Law_613 rfl rfl ?_
  refine Wp.iconst d_Law_614 (by decide) ?_
  obtain ⟨s5, H6⟩ := H4
  refine Wp.iadd d_Law_615 s5 ?_
  obtain ⟨s7, H8⟩ := H6
  refine Wp.sald d_Law_616 s7.1 s7.2 ?_
  refine Wp.aload_n 0 0 d_Law_617 rfl rfl ?_
  refine Wp.iload_n 3 3 d_Law_618 rfl rfl ?_
  refine Wp.iconst d_Law_619 (by decide) ?_
  obtain ⟨s9, H10⟩ := H8
  refine Wp.iadd d_Law_620 s9 ?_
  obtain ⟨s11, H12⟩ := H10
  refine Wp.sald d_Law_621 s11.1 s11.2 ?_
  obtain ⟨e13, P14, hd15, ho16, H17⟩ := H12
  refine Wq.VI (st := []) [.inl (g_x G ((x3 + 1)).toNat), .inl (g_x G ((x3 + 2)).toNat), .inl (g_x G ((x3 + 3)).toNat)] d_Law_622 k_S_will ml_Law_74 rfl rfl rfl (fun _ => by decide) (Nat.le_of_ble_eq_true rfl) hd15 ho16 (fun z19 m20 hp21 hz22 hw23 => ?_)
  have H18 := H17 z19 m20 hp21 hz22 hw23
  refine Wp.aload_n 2 2 d_Law_625 rfl rfl ?_
  refine Wp.aload_n 0 0 d_Law_626 rfl rfl ?_
  refine Wp.iload_n 3 3 d_Law_627 rfl rfl ?_
  refine Wp.iconst d_Law_628 (by decide) ?_
  obtain ⟨s24, H25⟩ := H18
  refine Wp.iadd d_Law_629 s24 ?_
  obtain ⟨s26, H27⟩ := H25
  refine Wp.sald d_Law_630 s26.1 s26.2 ?_
  refine Wp.aload_n 0 0 d_Law_631 rfl rfl ?_
  refine Wp.iload_n 3 3 d_Law_632 rfl rfl ?_
  refine Wp.iconst d_Law_633 (by decide) ?_
  obtain ⟨s28, H29⟩ := H27
  refine Wp.iadd d_Law_634 s28 ?_
  obtain ⟨s30, H31⟩ := H29
  refine Wp.sald d_Law_635 s30.1 s30.2 ?_
  refine Wp.aload_n 0 0 d_Law_636 rfl rfl ?_
  refine Wp.iload_n 3 3 d_Law_637 rfl rfl ?_
  refine Wp.iconst d_Law_638 (by decide) ?_
  obtain ⟨s32, H33⟩ := H31
  refine Wp.iadd d_Law_639 s32 ?_
  obtain ⟨s34, H35⟩ := H33
  refine Wp.sald d_Law_640 s34.1 s34.2 ?_
  obtain ⟨e36, P37, hd38, ho39, H40⟩ := H35
  refine Wq.VI (st := [.inl z19]) [.inl (g_x G ((x3 + 1)).toNat), .inl (g_x G ((x3 + 2)).toNat), .inl (g_x G ((x3 + 3)).toNat)] d_Law_641 k_M_will ml_Law_78 rfl rfl rfl (fun _ => by decide) (Nat.le_of_ble_eq_true rfl) hd38 ho39 (fun z42 m43 hp44 hz45 hw46 => ?_)
  have H41 := H40 z42 m43 hp44 hz45 hw46
  obtain ⟨H48, H49⟩ := H41
  refine Wp.icmp_eq 1542 d_Law_644 (by decide) (fun c47 => ?_) (fun c47 => ?_)
  · have H50 := H48 c47
    exact H50
  · have H51 := H49 c47
    refine Wp.iconst d_Law_647 (by decide) ?_
    exact H51.elim
theorem s_Law_649 {l : Launch} {G : GT} {Q : Option MV → MM → Nat → Prop} {m : MM} (x3 : Int) (H : wfM m → inR x3 → ∃ (e1 : Nat) (P2 : Int → MM → Prop), e1 < 400 ∧ CI l G Y_S_over e1 [.inr (.inr 0)] m P2 ∧ (∀ z7 m8, P2 z7 m8 → inR z7 → wfM m8 → (∃ (e12 : Nat) (P13 : Int → MM → Prop), e12 < 400 ∧ CI l G Y_M_over e12 [.inr (.inr 70)] m8 P13 ∧ (∀ z18 m19, P13 z18 m19 → inR z18 → wfM m19 → ((z7 = z18 → (Wq l G true Y_Law 400 Q 1542 [(0, .inr (.inr 1000)), (1, .inr (.inr 0)), (2, .inr (.inr 70)), (3, .inl x3)] [] m19)) ∧ (¬ (z7 = z18) → (False))))))) : Wq l G true Y_Law 400 Q 649 [(0, .inr (.inr 1000)), (1, .inr (.inr 0)), (2, .inr (.inr 70)), (3, .inl x3)] [] m := by
  refine Wp.wf (fun hw _ hl hs => ?_)
  have H0 := H hw (hl _ (List.mem_of_getElem? (i := 3) rfl))
  refine Wp.aload_n 1 1 d_Law_649 rfl rfl ?_
  obtain ⟨e1, P2, hd3, ho4, H5⟩ := H0
  refine Wq.VI (st := []) [] d_Law_650 k_S_over ml_Law_79 rfl rfl rfl (fun _ => by decide) (Nat.le_of_ble_eq_true rfl) hd3 ho4 (fun z7 m8 hp9 hz10 hw11 => ?_)
  have H6 := H5 z7 m8 hp9 hz10 hw11
  refine Wp.aload_n 2 2 d_Law_653 rfl rfl ?_
  obtain ⟨e12, P13, hd14, ho15, H16⟩ := H6
  refine Wq.VI (st := [.inl z7]) [] d_Law_654 k_M_over ml_Law_82 rfl rfl rfl (fun _ => by decide) (Nat.le_of_ble_eq_true rfl) hd14 ho15 (fun z18 m19 hp20 hz21 hw22 => ?_)
  have H17 := H16 z18 m19 hp20 hz21 hw22
  obtain ⟨H24, H25⟩ := H17
  refine Wp.icmp_eq 1542 d_Law_657 (by decide) (fun c23 => ?_) (fun c23 => ?_)
  · have H26 := H24 c23
    exact H26
  · have H27 := H25 c23
    refine Wp.iconst d_Law_660 (by decide) ?_
    exact H27.elim
theorem s_Law_662 {l : Launch} {G : GT} {Q : Option MV → MM → Nat → Prop} {m : MM} (x3 : Int) (H : wfM m → inR x3 → (inR (x3 + 1)) ∧ ((0 ≤ (x3 + 1) ∧ (x3 + 1) < (g_L G : Int)) ∧ (∃ (e5 : Nat) (P6 : Int → MM → Prop), e5 < 400 ∧ CI l G Y_S_rest e5 [.inr (.inr 0), .inl (g_x G ((x3 + 1)).toNat)] m P6 ∧ (∀ z11 m12, P6 z11 m12 → inR z11 → wfM m12 → ((inR (x3 + 1)) ∧ ((0 ≤ (x3 + 1) ∧ (x3 + 1) < (g_L G : Int)) ∧ (∃ (e20 : Nat) (P21 : Int → MM → Prop), e20 < 400 ∧ CI l G Y_M_rest e20 [.inr (.inr 70), .inl (g_x G ((x3 + 1)).toNat)] m12 P21 ∧ (∀ z26 m27, P21 z26 m27 → inR z26 → wfM m27 → ((z11 = z26 → (Wq l G true Y_Law 400 Q 1542 [(0, .inr (.inr 1000)), (1, .inr (.inr 0)), (2, .inr (.inr 70)), (3, .inl x3)] [] m27)) ∧ (¬ (z11 = z26) → (False))))))))))) : Wq l G true Y_Law 400 Q 662 [(0, .inr (.inr 1000)), (1, .inr (.inr 0)), (2, .inr (.inr 70)), (3, .inl x3)] [] m := by
  refine Wp.wf (fun hw _ hl hs => ?_)
  have H0 := H hw (hl _ (List.mem_of_getElem? (i := 3) rfl))
  refine Wp.aload_n 1 1 d_Law_662 rfl rfl ?_
  refine Wp.aload_n 0 0 d_Law_663 rfl rfl ?_
  refine Wp.iload_n 3 3 d_Law_664 rfl rfl ?_
  refine Wp.iconst d_Law_665 (by decide) ?_
  obtain ⟨s1, H2⟩ := H0
  refine Wp.iadd d_Law_666 s1 ?_
  obtain ⟨s3, H4⟩ := H2
  refine Wp.sald d_Law_667 s3.1 s3.2 ?_
  obtain ⟨e5, P6, hd7, ho8, H9⟩ := H4
  refine Wq.VI (st := []) [.inl (g_x G ((x3 + 1)).toNat)] d_Law_668 k_S_rest ml_Law_83 rfl rfl rfl (fun _ => by decide) (Nat.le_of_ble_eq_true rfl) hd7 ho8 (fun z11 m12 hp13 hz14 hw15 => ?_)
  have H10 := H9 z11 m12 hp13 hz14 hw15
  refine Wp.aload_n 2 2 d_Law_671 rfl rfl ?_
  refine Wp.aload_n 0 0 d_Law_672 rfl rfl ?_
  refine Wp.iload_n 3 3 d_Law_673 rfl rfl ?_
  refine Wp.iconst d_Law_674 (by decide) ?_
  obtain ⟨s16, H17⟩ := H10
  refine Wp.iadd d_Law_675 s16 ?_
  obtain ⟨s18, H19⟩ := H17
  refine Wp.sald d_Law_676 s18.1 s18.2 ?_
  obtain ⟨e20, P21, hd22, ho23, H24⟩ := H19
  refine Wq.VI (st := [.inl z11]) [.inl (g_x G ((x3 + 1)).toNat)] d_Law_677 k_M_rest ml_Law_86 rfl rfl rfl (fun _ => by decide) (Nat.le_of_ble_eq_true rfl) hd22 ho23 (fun z26 m27 hp28 hz29 hw30 => ?_)
  have H25 := H24 z26 m27 hp28 hz29 hw30
  obtain ⟨H32, H33⟩ := H25
  refine Wp.icmp_eq 1542 d_Law_680 (by decide) (fun c31 => ?_) (fun c31 => ?_)
  · have H34 := H32 c31
    exact H34
  · have H35 := H33 c31
    refine Wp.iconst d_Law_683 (by decide) ?_
    exact H35.elim
theorem s_Law_685 {l : Launch} {G : GT} {Q : Option MV → MM → Nat → Prop} {m : MM} (x3 : Int) (H : wfM m → inR x3 → (inR (x3 + 1)) ∧ ((0 ≤ (x3 + 1) ∧ (x3 + 1) < (g_L G : Int)) ∧ (∃ (e5 : Nat) (P6 : Int → MM → Prop), e5 < 400 ∧ CI l G Y_S_often e5 [.inr (.inr 0), .inl (g_x G ((x3 + 1)).toNat)] m P6 ∧ (∀ z11 m12, P6 z11 m12 → inR z11 → wfM m12 → ((inR (x3 + 1)) ∧ ((0 ≤ (x3 + 1) ∧ (x3 + 1) < (g_L G : Int)) ∧ (∃ (e20 : Nat) (P21 : Int → MM → Prop), e20 < 400 ∧ CI l G Y_M_often e20 [.inr (.inr 70), .inl (g_x G ((x3 + 1)).toNat)] m12 P21 ∧ (∀ z26 m27, P21 z26 m27 → inR z26 → wfM m27 → ((z11 = z26 → (Wq l G true Y_Law 400 Q 1542 [(0, .inr (.inr 1000)), (1, .inr (.inr 0)), (2, .inr (.inr 70)), (3, .inl x3)] [] m27)) ∧ (¬ (z11 = z26) → (False))))))))))) : Wq l G true Y_Law 400 Q 685 [(0, .inr (.inr 1000)), (1, .inr (.inr 0)), (2, .inr (.inr 70)), (3, .inl x3)] [] m := by
  refine Wp.wf (fun hw _ hl hs => ?_)
  have H0 := H hw (hl _ (List.mem_of_getElem? (i := 3) rfl))
  refine Wp.aload_n 1 1 d_Law_685 rfl rfl ?_
  refine Wp.aload_n 0 0 d_Law_686 rfl rfl ?_
  refine Wp.iload_n 3 3 d_Law_687 rfl rfl ?_
  refine Wp.iconst d_Law_688 (by decide) ?_
  obtain ⟨s1, H2⟩ := H0
  refine Wp.iadd d_Law_689 s1 ?_
  obtain ⟨s3, H4⟩ := H2
  refine Wp.sald d_Law_690 s3.1 s3.2 ?_
  obtain ⟨e5, P6, hd7, ho8, H9⟩ := H4
  refine Wq.VI (st := []) [.inl (g_x G ((x3 + 1)).toNat)] d_Law_691 k_S_often ml_Law_87 rfl rfl rfl (fun _ => by decide) (Nat.le_of_ble_eq_true rfl) hd7 ho8 (fun z11 m12 hp13 hz14 hw15 => ?_)
  have H10 := H9 z11 m12 hp13 hz14 hw15
  refine Wp.aload_n 2 2 d_Law_694 rfl rfl ?_
  refine Wp.aload_n 0 0 d_Law_695 rfl rfl ?_
  refine Wp.iload_n 3 3 d_Law_696 rfl rfl ?_
  refine Wp.iconst d_Law_697 (by decide) ?_
  obtain ⟨s16, H17⟩ := H10
  refine Wp.iadd d_Law_698 s16 ?_
  obtain ⟨s18, H19⟩ := H17
  refine Wp.sald d_Law_699 s18.1 s18.2 ?_
  obtain ⟨e20, P21, hd22, ho23, H24⟩ := H19
  refine Wq.VI (st := [.inl z11]) [.inl (g_x G ((x3 + 1)).toNat)] d_Law_700 k_M_often ml_Law_90 rfl rfl rfl (fun _ => by decide) (Nat.le_of_ble_eq_true rfl) hd22 ho23 (fun z26 m27 hp28 hz29 hw30 => ?_)
  have H25 := H24 z26 m27 hp28 hz29 hw30
  obtain ⟨H32, H33⟩ := H25
  refine Wp.icmp_eq 1542 d_Law_703 (by decide) (fun c31 => ?_) (fun c31 => ?_)
  · have H34 := H32 c31
    exact H34
  · have H35 := H33 c31
    refine Wp.iconst d_Law_706 (by decide) ?_
    exact H35.elim
theorem s_Law_708 {l : Launch} {G : GT} {Q : Option MV → MM → Nat → Prop} {m : MM} (x3 : Int) (H : wfM m → inR x3 → ∃ (e1 : Nat) (P2 : Int → MM → Prop), e1 < 400 ∧ CI l G Y_S_spilt e1 [.inr (.inr 0)] m P2 ∧ (∀ z7 m8, P2 z7 m8 → inR z7 → wfM m8 → (∃ (e12 : Nat) (P13 : Int → MM → Prop), e12 < 400 ∧ CI l G Y_M_spilt e12 [.inr (.inr 70)] m8 P13 ∧ (∀ z18 m19, P13 z18 m19 → inR z18 → wfM m19 → ((z7 = z18 → (Wq l G true Y_Law 400 Q 1542 [(0, .inr (.inr 1000)), (1, .inr (.inr 0)), (2, .inr (.inr 70)), (3, .inl x3)] [] m19)) ∧ (¬ (z7 = z18) → (False))))))) : Wq l G true Y_Law 400 Q 708 [(0, .inr (.inr 1000)), (1, .inr (.inr 0)), (2, .inr (.inr 70)), (3, .inl x3)] [] m := by
  refine Wp.wf (fun hw _ hl hs => ?_)
  have H0 := H hw (hl _ (List.mem_of_getElem? (i := 3) rfl))
  refine Wp.aload_n 1 1 d_Law_708 rfl rfl ?_
  obtain ⟨e1, P2, hd3, ho4, H5⟩ := H0
  refine Wq.VI (st := []) [] d_Law_709 k_S_spilt ml_Law_91 rfl rfl rfl (fun _ => by decide) (Nat.le_of_ble_eq_true rfl) hd3 ho4 (fun z7 m8 hp9 hz10 hw11 => ?_)
  have H6 := H5 z7 m8 hp9 hz10 hw11
  refine Wp.aload_n 2 2 d_Law_712 rfl rfl ?_
  obtain ⟨e12, P13, hd14, ho15, H16⟩ := H6
  refine Wq.VI (st := [.inl z7]) [] d_Law_713 k_M_spilt ml_Law_94 rfl rfl rfl (fun _ => by decide) (Nat.le_of_ble_eq_true rfl) hd14 ho15 (fun z18 m19 hp20 hz21 hw22 => ?_)
  have H17 := H16 z18 m19 hp20 hz21 hw22
  obtain ⟨H24, H25⟩ := H17
  refine Wp.icmp_eq 1542 d_Law_716 (by decide) (fun c23 => ?_) (fun c23 => ?_)
  · have H26 := H24 c23
    exact H26
  · have H27 := H25 c23
    refine Wp.iconst d_Law_719 (by decide) ?_
    exact H27.elim
theorem s_Law_721 {l : Launch} {G : GT} {Q : Option MV → MM → Nat → Prop} {m : MM} (x3 : Int) (H : wfM m → inR x3 → ∃ (e1 : Nat) (P2 : Int → MM → Prop), e1 < 400 ∧ CI l G Y_S_row e1 [.inr (.inr 0)] m P2 ∧ (∀ z7 m8, P2 z7 m8 → inR z7 → wfM m8 → (∃ (e12 : Nat) (P13 : Int → MM → Prop), e12 < 400 ∧ CI l G Y_M_row e12 [.inr (.inr 70)] m8 P13 ∧ (∀ z18 m19, P13 z18 m19 → inR z18 → wfM m19 → ((z7 = z18 → (Wq l G true Y_Law 400 Q 1542 [(0, .inr (.inr 1000)), (1, .inr (.inr 0)), (2, .inr (.inr 70)), (3, .inl x3)] [] m19)) ∧ (¬ (z7 = z18) → (False))))))) : Wq l G true Y_Law 400 Q 721 [(0, .inr (.inr 1000)), (1, .inr (.inr 0)), (2, .inr (.inr 70)), (3, .inl x3)] [] m := by
  refine Wp.wf (fun hw _ hl hs => ?_)
  have H0 := H hw (hl _ (List.mem_of_getElem? (i := 3) rfl))
  refine Wp.aload_n 1 1 d_Law_721 rfl rfl ?_
  obtain ⟨e1, P2, hd3, ho4, H5⟩ := H0
  refine Wq.VI (st := []) [] d_Law_722 k_S_row ml_Law_95 rfl rfl rfl (fun _ => by decide) (Nat.le_of_ble_eq_true rfl) hd3 ho4 (fun z7 m8 hp9 hz10 hw11 => ?_)
  have H6 := H5 z7 m8 hp9 hz10 hw11
  refine Wp.aload_n 2 2 d_Law_725 rfl rfl ?_
  obtain ⟨e12, P13, hd14, ho15, H16⟩ := H6
  refine Wq.VI (st := [.inl z7]) [] d_Law_726 k_M_row ml_Law_98 rfl rfl rfl (fun _ => by decide) (Nat.le_of_ble_eq_true rfl) hd14 ho15 (fun z18 m19 hp20 hz21 hw22 => ?_)
  have H17 := H16 z18 m19 hp20 hz21 hw22
  obtain ⟨H24, H25⟩ := H17
  refine Wp.icmp_eq 1542 d_Law_729 (by decide) (fun c23 => ?_) (fun c23 => ?_)
  · have H26 := H24 c23
    exact H26
  · have H27 := H25 c23
    refine Wp.iconst d_Law_732 (by decide) ?_
    exact H27.elim
theorem s_Law_734 {l : Launch} {G : GT} {Q : Option MV → MM → Nat → Prop} {m : MM} (x3 : Int) (H : wfM m → inR x3 → ∃ (e1 : Nat) (P2 : Int → MM → Prop), e1 < 400 ∧ CI l G Y_S_rounds e1 [.inr (.inr 0)] m P2 ∧ (∀ z7 m8, P2 z7 m8 → inR z7 → wfM m8 → (∃ (e12 : Nat) (P13 : Int → MM → Prop), e12 < 400 ∧ CI l G Y_M_rounds e12 [.inr (.inr 70)] m8 P13 ∧ (∀ z18 m19, P13 z18 m19 → inR z18 → wfM m19 → ((z7 = z18 → (Wq l G true Y_Law 400 Q 1542 [(0, .inr (.inr 1000)), (1, .inr (.inr 0)), (2, .inr (.inr 70)), (3, .inl x3)] [] m19)) ∧ (¬ (z7 = z18) → (False))))))) : Wq l G true Y_Law 400 Q 734 [(0, .inr (.inr 1000)), (1, .inr (.inr 0)), (2, .inr (.inr 70)), (3, .inl x3)] [] m := by
  refine Wp.wf (fun hw _ hl hs => ?_)
  have H0 := H hw (hl _ (List.mem_of_getElem? (i := 3) rfl))
  refine Wp.aload_n 1 1 d_Law_734 rfl rfl ?_
  obtain ⟨e1, P2, hd3, ho4, H5⟩ := H0
  refine Wq.VI (st := []) [] d_Law_735 k_S_rounds ml_Law_99 rfl rfl rfl (fun _ => by decide) (Nat.le_of_ble_eq_true rfl) hd3 ho4 (fun z7 m8 hp9 hz10 hw11 => ?_)
  have H6 := H5 z7 m8 hp9 hz10 hw11
  refine Wp.aload_n 2 2 d_Law_738 rfl rfl ?_
  obtain ⟨e12, P13, hd14, ho15, H16⟩ := H6
  refine Wq.VI (st := [.inl z7]) [] d_Law_739 k_M_rounds ml_Law_102 rfl rfl rfl (fun _ => by decide) (Nat.le_of_ble_eq_true rfl) hd14 ho15 (fun z18 m19 hp20 hz21 hw22 => ?_)
  have H17 := H16 z18 m19 hp20 hz21 hw22
  obtain ⟨H24, H25⟩ := H17
  refine Wp.icmp_eq 1542 d_Law_742 (by decide) (fun c23 => ?_) (fun c23 => ?_)
  · have H26 := H24 c23
    exact H26
  · have H27 := H25 c23
    refine Wp.iconst d_Law_745 (by decide) ?_
    exact H27.elim
theorem s_Law_747 {l : Launch} {G : GT} {Q : Option MV → MM → Nat → Prop} {m : MM} (x3 : Int) (H : wfM m → inR x3 → (inR (x3 + 1)) ∧ ((0 ≤ (x3 + 1) ∧ (x3 + 1) < (g_L G : Int)) ∧ ((inR (x3 + 2)) ∧ ((0 ≤ (x3 + 2) ∧ (x3 + 2) < (g_L G : Int)) ∧ (∃ (e9 : Nat) (P10 : Int → MM → Prop), e9 < 400 ∧ CI l G Y_S_slide e9 [.inr (.inr 0), .inl (g_x G ((x3 + 1)).toNat), .inl (g_x G ((x3 + 2)).toNat)] m P10 ∧ (∀ z15 m16, P10 z15 m16 → inR z15 → wfM m16 → ((inR (x3 + 1)) ∧ ((0 ≤ (x3 + 1) ∧ (x3 + 1) < (g_L G : Int)) ∧ ((inR (x3 + 2)) ∧ ((0 ≤ (x3 + 2) ∧ (x3 + 2) < (g_L G : Int)) ∧ (∃ (e28 : Nat) (P29 : Int → MM → Prop), e28 < 400 ∧ CI l G Y_M_slide e28 [.inr (.inr 70), .inl (g_x G ((x3 + 1)).toNat), .inl (g_x G ((x3 + 2)).toNat)] m16 P29 ∧ (∀ z34 m35, P29 z34 m35 → inR z34 → wfM m35 → ((z15 = z34 → (Wq l G true Y_Law 400 Q 1542 [(0, .inr (.inr 1000)), (1, .inr (.inr 0)), (2, .inr (.inr 70)), (3, .inl x3)] [] m35)) ∧ (¬ (z15 = z34) → (False))))))))))))))) : Wq l G true Y_Law 400 Q 747 [(0, .inr (.inr 1000)), (1, .inr (.inr 0)), (2, .inr (.inr 70)), (3, .inl x3)] [] m := by
  refine Wp.wf (fun hw _ hl hs => ?_)
  have H0 := H hw (hl _ (List.mem_of_getElem? (i := 3) rfl))
  refine Wp.aload_n 1 1 d_Law_747 rfl rfl ?_
  refine Wp.aload_n 0 0 d_Law_748 rfl rfl ?_
  refine Wp.iload_n 3 3 d_Law_749 rfl rfl ?_
  refine Wp.iconst d_Law_750 (by decide) ?_
  obtain ⟨s1, H2⟩ := H0
  refine Wp.iadd d_Law_751 s1 ?_
  obtain ⟨s3, H4⟩ := H2
  refine Wp.sald d_Law_752 s3.1 s3.2 ?_
  refine Wp.aload_n 0 0 d_Law_753 rfl rfl ?_
  refine Wp.iload_n 3 3 d_Law_754 rfl rfl ?_
  refine Wp.iconst d_Law_755 (by decide) ?_
  obtain ⟨s5, H6⟩ := H4
  refine Wp.iadd d_Law_756 s5 ?_
  obtain ⟨s7, H8⟩ := H6
  refine Wp.sald d_Law_757 s7.1 s7.2 ?_
  obtain ⟨e9, P10, hd11, ho12, H13⟩ := H8
  refine Wq.VI (st := []) [.inl (g_x G ((x3 + 1)).toNat), .inl (g_x G ((x3 + 2)).toNat)] d_Law_758 k_S_slide ml_Law_103 rfl rfl rfl (fun _ => by decide) (Nat.le_of_ble_eq_true rfl) hd11 ho12 (fun z15 m16 hp17 hz18 hw19 => ?_)
  have H14 := H13 z15 m16 hp17 hz18 hw19
  refine Wp.aload_n 2 2 d_Law_761 rfl rfl ?_
  refine Wp.aload_n 0 0 d_Law_762 rfl rfl ?_
  refine Wp.iload_n 3 3 d_Law_763 rfl rfl ?_
  refine Wp.iconst d_Law_764 (by decide) ?_
  obtain ⟨s20, H21⟩ := H14
  refine Wp.iadd d_Law_765 s20 ?_
  obtain ⟨s22, H23⟩ := H21
  refine Wp.sald d_Law_766 s22.1 s22.2 ?_
  refine Wp.aload_n 0 0 d_Law_767 rfl rfl ?_
  refine Wp.iload_n 3 3 d_Law_768 rfl rfl ?_
  refine Wp.iconst d_Law_769 (by decide) ?_
  obtain ⟨s24, H25⟩ := H23
  refine Wp.iadd d_Law_770 s24 ?_
  obtain ⟨s26, H27⟩ := H25
  refine Wp.sald d_Law_771 s26.1 s26.2 ?_
  obtain ⟨e28, P29, hd30, ho31, H32⟩ := H27
  refine Wq.VI (st := [.inl z15]) [.inl (g_x G ((x3 + 1)).toNat), .inl (g_x G ((x3 + 2)).toNat)] d_Law_772 k_M_slide ml_Law_106 rfl rfl rfl (fun _ => by decide) (Nat.le_of_ble_eq_true rfl) hd30 ho31 (fun z34 m35 hp36 hz37 hw38 => ?_)
  have H33 := H32 z34 m35 hp36 hz37 hw38
  obtain ⟨H40, H41⟩ := H33
  refine Wp.icmp_eq 1542 d_Law_775 (by decide) (fun c39 => ?_) (fun c39 => ?_)
  · have H42 := H40 c39
    exact H42
  · have H43 := H41 c39
    refine Wp.iconst d_Law_778 (by decide) ?_
    exact H43.elim
theorem s_Law_780 {l : Launch} {G : GT} {Q : Option MV → MM → Nat → Prop} {m : MM} (x3 : Int) (H : wfM m → inR x3 → ∃ (e1 : Nat) (P2 : Int → MM → Prop), e1 < 400 ∧ CI l G Y_S_steepest e1 [.inr (.inr 0)] m P2 ∧ (∀ z7 m8, P2 z7 m8 → inR z7 → wfM m8 → (∃ (e12 : Nat) (P13 : Int → MM → Prop), e12 < 400 ∧ CI l G Y_M_steepest e12 [.inr (.inr 70)] m8 P13 ∧ (∀ z18 m19, P13 z18 m19 → inR z18 → wfM m19 → ((z7 = z18 → (Wq l G true Y_Law 400 Q 1542 [(0, .inr (.inr 1000)), (1, .inr (.inr 0)), (2, .inr (.inr 70)), (3, .inl x3)] [] m19)) ∧ (¬ (z7 = z18) → (False))))))) : Wq l G true Y_Law 400 Q 780 [(0, .inr (.inr 1000)), (1, .inr (.inr 0)), (2, .inr (.inr 70)), (3, .inl x3)] [] m := by
  refine Wp.wf (fun hw _ hl hs => ?_)
  have H0 := H hw (hl _ (List.mem_of_getElem? (i := 3) rfl))
  refine Wp.aload_n 1 1 d_Law_780 rfl rfl ?_
  obtain ⟨e1, P2, hd3, ho4, H5⟩ := H0
  refine Wq.VI (st := []) [] d_Law_781 k_S_steepest ml_Law_107 rfl rfl rfl (fun _ => by decide) (Nat.le_of_ble_eq_true rfl) hd3 ho4 (fun z7 m8 hp9 hz10 hw11 => ?_)
  have H6 := H5 z7 m8 hp9 hz10 hw11
  refine Wp.aload_n 2 2 d_Law_784 rfl rfl ?_
  obtain ⟨e12, P13, hd14, ho15, H16⟩ := H6
  refine Wq.VI (st := [.inl z7]) [] d_Law_785 k_M_steepest ml_Law_110 rfl rfl rfl (fun _ => by decide) (Nat.le_of_ble_eq_true rfl) hd14 ho15 (fun z18 m19 hp20 hz21 hw22 => ?_)
  have H17 := H16 z18 m19 hp20 hz21 hw22
  obtain ⟨H24, H25⟩ := H17
  refine Wp.icmp_eq 1542 d_Law_788 (by decide) (fun c23 => ?_) (fun c23 => ?_)
  · have H26 := H24 c23
    exact H26
  · have H27 := H25 c23
    refine Wp.iconst d_Law_791 (by decide) ?_
    exact H27.elim
theorem s_Law_793 {l : Launch} {G : GT} {Q : Option MV → MM → Nat → Prop} {m : MM} (x3 : Int) (H : wfM m → inR x3 → ∃ (e1 : Nat) (P2 : Int → MM → Prop), e1 < 400 ∧ CI l G Y_S_quiet e1 [.inr (.inr 0)] m P2 ∧ (∀ z7 m8, P2 z7 m8 → inR z7 → wfM m8 → (∃ (e12 : Nat) (P13 : Int → MM → Prop), e12 < 400 ∧ CI l G Y_M_quiet e12 [.inr (.inr 70)] m8 P13 ∧ (∀ z18 m19, P13 z18 m19 → inR z18 → wfM m19 → ((z7 = z18 → (Wq l G true Y_Law 400 Q 1542 [(0, .inr (.inr 1000)), (1, .inr (.inr 0)), (2, .inr (.inr 70)), (3, .inl x3)] [] m19)) ∧ (¬ (z7 = z18) → (False))))))) : Wq l G true Y_Law 400 Q 793 [(0, .inr (.inr 1000)), (1, .inr (.inr 0)), (2, .inr (.inr 70)), (3, .inl x3)] [] m := by
  refine Wp.wf (fun hw _ hl hs => ?_)
  have H0 := H hw (hl _ (List.mem_of_getElem? (i := 3) rfl))
  refine Wp.aload_n 1 1 d_Law_793 rfl rfl ?_
  obtain ⟨e1, P2, hd3, ho4, H5⟩ := H0
  refine Wq.VI (st := []) [] d_Law_794 k_S_quiet ml_Law_111 rfl rfl rfl (fun _ => by decide) (Nat.le_of_ble_eq_true rfl) hd3 ho4 (fun z7 m8 hp9 hz10 hw11 => ?_)
  have H6 := H5 z7 m8 hp9 hz10 hw11
  refine Wp.aload_n 2 2 d_Law_797 rfl rfl ?_
  obtain ⟨e12, P13, hd14, ho15, H16⟩ := H6
  refine Wq.VI (st := [.inl z7]) [] d_Law_798 k_M_quiet ml_Law_114 rfl rfl rfl (fun _ => by decide) (Nat.le_of_ble_eq_true rfl) hd14 ho15 (fun z18 m19 hp20 hz21 hw22 => ?_)
  have H17 := H16 z18 m19 hp20 hz21 hw22
  obtain ⟨H24, H25⟩ := H17
  refine Wp.icmp_eq 1542 d_Law_801 (by decide) (fun c23 => ?_) (fun c23 => ?_)
  · have H26 := H24 c23
    exact H26
  · have H27 := H25 c23
    refine Wp.iconst d_Law_804 (by decide) ?_
    exact H27.elim
theorem s_Law_806 {l : Launch} {G : GT} {Q : Option MV → MM → Nat → Prop} {m : MM} (x3 : Int) (H : wfM m → inR x3 → ∃ (e1 : Nat) (P2 : Int → MM → Prop), e1 < 400 ∧ CI l G Y_S_fire e1 [.inr (.inr 0)] m P2 ∧ (∀ z7 m8, P2 z7 m8 → inR z7 → wfM m8 → (∃ (e12 : Nat) (P13 : Int → MM → Prop), e12 < 400 ∧ CI l G Y_M_fire e12 [.inr (.inr 70)] m8 P13 ∧ (∀ z18 m19, P13 z18 m19 → inR z18 → wfM m19 → ((z7 = z18 → (Wq l G true Y_Law 400 Q 1542 [(0, .inr (.inr 1000)), (1, .inr (.inr 0)), (2, .inr (.inr 70)), (3, .inl x3)] [] m19)) ∧ (¬ (z7 = z18) → (False))))))) : Wq l G true Y_Law 400 Q 806 [(0, .inr (.inr 1000)), (1, .inr (.inr 0)), (2, .inr (.inr 70)), (3, .inl x3)] [] m := by
  refine Wp.wf (fun hw _ hl hs => ?_)
  have H0 := H hw (hl _ (List.mem_of_getElem? (i := 3) rfl))
  refine Wp.aload_n 1 1 d_Law_806 rfl rfl ?_
  obtain ⟨e1, P2, hd3, ho4, H5⟩ := H0
  refine Wq.VI (st := []) [] d_Law_807 k_S_fire ml_Law_115 rfl rfl rfl (fun _ => by decide) (Nat.le_of_ble_eq_true rfl) hd3 ho4 (fun z7 m8 hp9 hz10 hw11 => ?_)
  have H6 := H5 z7 m8 hp9 hz10 hw11
  refine Wp.aload_n 2 2 d_Law_810 rfl rfl ?_
  obtain ⟨e12, P13, hd14, ho15, H16⟩ := H6
  refine Wq.VI (st := [.inl z7]) [] d_Law_811 k_M_fire ml_Law_118 rfl rfl rfl (fun _ => by decide) (Nat.le_of_ble_eq_true rfl) hd14 ho15 (fun z18 m19 hp20 hz21 hw22 => ?_)
  have H17 := H16 z18 m19 hp20 hz21 hw22
  obtain ⟨H24, H25⟩ := H17
  refine Wp.icmp_eq 1542 d_Law_814 (by decide) (fun c23 => ?_) (fun c23 => ?_)
  · have H26 := H24 c23
    exact H26
  · have H27 := H25 c23
    refine Wp.iconst d_Law_817 (by decide) ?_
    exact H27.elim
theorem s_Law_819 {l : Launch} {G : GT} {Q : Option MV → MM → Nat → Prop} {m : MM} (x3 : Int) (H : wfM m → inR x3 → ∃ (e1 : Nat) (P2 : Int → MM → Prop), e1 < 400 ∧ CI l G Y_S_many e1 [.inr (.inr 0)] m P2 ∧ (∀ z7 m8, P2 z7 m8 → inR z7 → wfM m8 → (∃ (e12 : Nat) (P13 : Int → MM → Prop), e12 < 400 ∧ CI l G Y_M_many e12 [.inr (.inr 70)] m8 P13 ∧ (∀ z18 m19, P13 z18 m19 → inR z18 → wfM m19 → ((z7 = z18 → (Wq l G true Y_Law 400 Q 1542 [(0, .inr (.inr 1000)), (1, .inr (.inr 0)), (2, .inr (.inr 70)), (3, .inl x3)] [] m19)) ∧ (¬ (z7 = z18) → (False))))))) : Wq l G true Y_Law 400 Q 819 [(0, .inr (.inr 1000)), (1, .inr (.inr 0)), (2, .inr (.inr 70)), (3, .inl x3)] [] m := by
  refine Wp.wf (fun hw _ hl hs => ?_)
  have H0 := H hw (hl _ (List.mem_of_getElem? (i := 3) rfl))
  refine Wp.aload_n 1 1 d_Law_819 rfl rfl ?_
  obtain ⟨e1, P2, hd3, ho4, H5⟩ := H0
  refine Wq.VI (st := []) [] d_Law_820 k_S_many ml_Law_119 rfl rfl rfl (fun _ => by decide) (Nat.le_of_ble_eq_true rfl) hd3 ho4 (fun z7 m8 hp9 hz10 hw11 => ?_)
  have H6 := H5 z7 m8 hp9 hz10 hw11
  refine Wp.aload_n 2 2 d_Law_823 rfl rfl ?_
  obtain ⟨e12, P13, hd14, ho15, H16⟩ := H6
  refine Wq.VI (st := [.inl z7]) [] d_Law_824 k_M_many ml_Law_122 rfl rfl rfl (fun _ => by decide) (Nat.le_of_ble_eq_true rfl) hd14 ho15 (fun z18 m19 hp20 hz21 hw22 => ?_)
  have H17 := H16 z18 m19 hp20 hz21 hw22
  obtain ⟨H24, H25⟩ := H17
  refine Wp.icmp_eq 1542 d_Law_827 (by decide) (fun c23 => ?_) (fun c23 => ?_)
  · have H26 := H24 c23
    exact H26
  · have H27 := H25 c23
    refine Wp.iconst d_Law_830 (by decide) ?_
    exact H27.elim
theorem s_Law_832 {l : Launch} {G : GT} {Q : Option MV → MM → Nat → Prop} {m : MM} (x3 : Int) (H : wfM m → inR x3 → (inR (x3 + 1)) ∧ ((0 ≤ (x3 + 1) ∧ (x3 + 1) < (g_L G : Int)) ∧ (∃ (e5 : Nat) (P6 : Int → MM → Prop), e5 < 400 ∧ CI l G Y_S_level e5 [.inr (.inr 0), .inl (g_x G ((x3 + 1)).toNat)] m P6 ∧ (∀ z11 m12, P6 z11 m12 → inR z11 → wfM m12 → ((inR (x3 + 1)) ∧ ((0 ≤ (x3 + 1) ∧ (x3 + 1) < (g_L G : Int)) ∧ (∃ (e20 : Nat) (P21 : Int → MM → Prop), e20 < 400 ∧ CI l G Y_M_level e20 [.inr (.inr 70), .inl (g_x G ((x3 + 1)).toNat)] m12 P21 ∧ (∀ z26 m27, P21 z26 m27 → inR z26 → wfM m27 → ((z11 = z26 → (Wq l G true Y_Law 400 Q 1542 [(0, .inr (.inr 1000)), (1, .inr (.inr 0)), (2, .inr (.inr 70)), (3, .inl x3)] [] m27)) ∧ (¬ (z11 = z26) → (False))))))))))) : Wq l G true Y_Law 400 Q 832 [(0, .inr (.inr 1000)), (1, .inr (.inr 0)), (2, .inr (.inr 70)), (3, .inl x3)] [] m := by
  refine Wp.wf (fun hw _ hl hs => ?_)
  have H0 := H hw (hl _ (List.mem_of_getElem? (i := 3) rfl))
  refine Wp.aload_n 1 1 d_Law_832 rfl rfl ?_
  refine Wp.aload_n 0 0 d_Law_833 rfl rfl ?_
  refine Wp.iload_n 3 3 d_Law_834 rfl rfl ?_
  refine Wp.iconst d_Law_835 (by decide) ?_
  obtain ⟨s1, H2⟩ := H0
  refine Wp.iadd d_Law_836 s1 ?_
  obtain ⟨s3, H4⟩ := H2
  refine Wp.sald d_Law_837 s3.1 s3.2 ?_
  obtain ⟨e5, P6, hd7, ho8, H9⟩ := H4
  refine Wq.VI (st := []) [.inl (g_x G ((x3 + 1)).toNat)] d_Law_838 k_S_level ml_Law_123 rfl rfl rfl (fun _ => by decide) (Nat.le_of_ble_eq_true rfl) hd7 ho8 (fun z11 m12 hp13 hz14 hw15 => ?_)
  have H10 := H9 z11 m12 hp13 hz14 hw15
  refine Wp.aload_n 2 2 d_Law_841 rfl rfl ?_
  refine Wp.aload_n 0 0 d_Law_842 rfl rfl ?_
  refine Wp.iload_n 3 3 d_Law_843 rfl rfl ?_
  refine Wp.iconst d_Law_844 (by decide) ?_
  obtain ⟨s16, H17⟩ := H10
  refine Wp.iadd d_Law_845 s16 ?_
  obtain ⟨s18, H19⟩ := H17
  refine Wp.sald d_Law_846 s18.1 s18.2 ?_
  obtain ⟨e20, P21, hd22, ho23, H24⟩ := H19
  refine Wq.VI (st := [.inl z11]) [.inl (g_x G ((x3 + 1)).toNat)] d_Law_847 k_M_level ml_Law_126 rfl rfl rfl (fun _ => by decide) (Nat.le_of_ble_eq_true rfl) hd22 ho23 (fun z26 m27 hp28 hz29 hw30 => ?_)
  have H25 := H24 z26 m27 hp28 hz29 hw30
  obtain ⟨H32, H33⟩ := H25
  refine Wp.icmp_eq 1542 d_Law_850 (by decide) (fun c31 => ?_) (fun c31 => ?_)
  · have H34 := H32 c31
    exact H34
  · have H35 := H33 c31
    refine Wp.iconst d_Law_853 (by decide) ?_
    exact H35.elim
theorem s_Law_855 {l : Launch} {G : GT} {Q : Option MV → MM → Nat → Prop} {m : MM} (x3 : Int) (H : wfM m → inR x3 → (inR (x3 + 1)) ∧ ((0 ≤ (x3 + 1) ∧ (x3 + 1) < (g_L G : Int)) ∧ (∃ (e5 : Nat) (P6 : Int → MM → Prop), e5 < 400 ∧ CI l G Y_S_levels e5 [.inr (.inr 0), .inl (g_x G ((x3 + 1)).toNat)] m P6 ∧ (∀ z11 m12, P6 z11 m12 → inR z11 → wfM m12 → ((inR (x3 + 1)) ∧ ((0 ≤ (x3 + 1) ∧ (x3 + 1) < (g_L G : Int)) ∧ (∃ (e20 : Nat) (P21 : Int → MM → Prop), e20 < 400 ∧ CI l G Y_M_levels e20 [.inr (.inr 70), .inl (g_x G ((x3 + 1)).toNat)] m12 P21 ∧ (∀ z26 m27, P21 z26 m27 → inR z26 → wfM m27 → ((z11 = z26 → (Wq l G true Y_Law 400 Q 1542 [(0, .inr (.inr 1000)), (1, .inr (.inr 0)), (2, .inr (.inr 70)), (3, .inl x3)] [] m27)) ∧ (¬ (z11 = z26) → (False))))))))))) : Wq l G true Y_Law 400 Q 855 [(0, .inr (.inr 1000)), (1, .inr (.inr 0)), (2, .inr (.inr 70)), (3, .inl x3)] [] m := by
  refine Wp.wf (fun hw _ hl hs => ?_)
  have H0 := H hw (hl _ (List.mem_of_getElem? (i := 3) rfl))
  refine Wp.aload_n 1 1 d_Law_855 rfl rfl ?_
  refine Wp.aload_n 0 0 d_Law_856 rfl rfl ?_
  refine Wp.iload_n 3 3 d_Law_857 rfl rfl ?_
  refine Wp.iconst d_Law_858 (by decide) ?_
  obtain ⟨s1, H2⟩ := H0
  refine Wp.iadd d_Law_859 s1 ?_
  obtain ⟨s3, H4⟩ := H2
  refine Wp.sald d_Law_860 s3.1 s3.2 ?_
  obtain ⟨e5, P6, hd7, ho8, H9⟩ := H4
  refine Wq.VI (st := []) [.inl (g_x G ((x3 + 1)).toNat)] d_Law_861 k_S_levels ml_Law_127 rfl rfl rfl (fun _ => by decide) (Nat.le_of_ble_eq_true rfl) hd7 ho8 (fun z11 m12 hp13 hz14 hw15 => ?_)
  have H10 := H9 z11 m12 hp13 hz14 hw15
  refine Wp.aload_n 2 2 d_Law_864 rfl rfl ?_
  refine Wp.aload_n 0 0 d_Law_865 rfl rfl ?_
  refine Wp.iload_n 3 3 d_Law_866 rfl rfl ?_
  refine Wp.iconst d_Law_867 (by decide) ?_
  obtain ⟨s16, H17⟩ := H10
  refine Wp.iadd d_Law_868 s16 ?_
  obtain ⟨s18, H19⟩ := H17
  refine Wp.sald d_Law_869 s18.1 s18.2 ?_
  obtain ⟨e20, P21, hd22, ho23, H24⟩ := H19
  refine Wq.VI (st := [.inl z11]) [.inl (g_x G ((x3 + 1)).toNat)] d_Law_870 k_M_levels ml_Law_130 rfl rfl rfl (fun _ => by decide) (Nat.le_of_ble_eq_true rfl) hd22 ho23 (fun z26 m27 hp28 hz29 hw30 => ?_)
  have H25 := H24 z26 m27 hp28 hz29 hw30
  obtain ⟨H32, H33⟩ := H25
  refine Wp.icmp_eq 1542 d_Law_873 (by decide) (fun c31 => ?_) (fun c31 => ?_)
  · have H34 := H32 c31
    exact H34
  · have H35 := H33 c31
    refine Wp.iconst d_Law_876 (by decide) ?_
    exact H35.elim
theorem s_Law_878 {l : Launch} {G : GT} {Q : Option MV → MM → Nat → Prop} {m : MM} (x3 : Int) (H : wfM m → inR x3 → ∃ (e1 : Nat) (P2 : Int → MM → Prop), e1 < 400 ∧ CI l G Y_S_mend e1 [.inr (.inr 0)] m P2 ∧ (∀ z7 m8, P2 z7 m8 → inR z7 → wfM m8 → (∃ (e12 : Nat) (P13 : Int → MM → Prop), e12 < 400 ∧ CI l G Y_M_mend e12 [.inr (.inr 70)] m8 P13 ∧ (∀ z18 m19, P13 z18 m19 → inR z18 → wfM m19 → ((z7 = z18 → (Wq l G true Y_Law 400 Q 1542 [(0, .inr (.inr 1000)), (1, .inr (.inr 0)), (2, .inr (.inr 70)), (3, .inl x3)] [] m19)) ∧ (¬ (z7 = z18) → (False))))))) : Wq l G true Y_Law 400 Q 878 [(0, .inr (.inr 1000)), (1, .inr (.inr 0)), (2, .inr (.inr 70)), (3, .inl x3)] [] m := by
  refine Wp.wf (fun hw _ hl hs => ?_)
  have H0 := H hw (hl _ (List.mem_of_getElem? (i := 3) rfl))
  refine Wp.aload_n 1 1 d_Law_878 rfl rfl ?_
  obtain ⟨e1, P2, hd3, ho4, H5⟩ := H0
  refine Wq.VI (st := []) [] d_Law_879 k_S_mend ml_Law_131 rfl rfl rfl (fun _ => by decide) (Nat.le_of_ble_eq_true rfl) hd3 ho4 (fun z7 m8 hp9 hz10 hw11 => ?_)
  have H6 := H5 z7 m8 hp9 hz10 hw11
  refine Wp.aload_n 2 2 d_Law_882 rfl rfl ?_
  obtain ⟨e12, P13, hd14, ho15, H16⟩ := H6
  refine Wq.VI (st := [.inl z7]) [] d_Law_883 k_M_mend ml_Law_134 rfl rfl rfl (fun _ => by decide) (Nat.le_of_ble_eq_true rfl) hd14 ho15 (fun z18 m19 hp20 hz21 hw22 => ?_)
  have H17 := H16 z18 m19 hp20 hz21 hw22
  obtain ⟨H24, H25⟩ := H17
  refine Wp.icmp_eq 1542 d_Law_886 (by decide) (fun c23 => ?_) (fun c23 => ?_)
  · have H26 := H24 c23
    exact H26
  · have H27 := H25 c23
    refine Wp.iconst d_Law_889 (by decide) ?_
    exact H27.elim
theorem s_Law_891 {l : Launch} {G : GT} {Q : Option MV → MM → Nat → Prop} {m : MM} (x3 : Int) (H : wfM m → inR x3 → (inR (x3 + 1)) ∧ ((0 ≤ (x3 + 1) ∧ (x3 + 1) < (g_L G : Int)) ∧ (∃ (e5 : Nat) (P6 : Int → MM → Prop), e5 < 400 ∧ CI l G Y_S_nought e5 [.inr (.inr 0), .inl (g_x G ((x3 + 1)).toNat)] m P6 ∧ (∀ z11 m12, P6 z11 m12 → inR z11 → wfM m12 → ((inR (x3 + 1)) ∧ ((0 ≤ (x3 + 1) ∧ (x3 + 1) < (g_L G : Int)) ∧ (∃ (e20 : Nat) (P21 : Int → MM → Prop), e20 < 400 ∧ CI l G Y_M_nought e20 [.inr (.inr 70), .inl (g_x G ((x3 + 1)).toNat)] m12 P21 ∧ (∀ z26 m27, P21 z26 m27 → inR z26 → wfM m27 → ((z11 = z26 → (Wq l G true Y_Law 400 Q 1542 [(0, .inr (.inr 1000)), (1, .inr (.inr 0)), (2, .inr (.inr 70)), (3, .inl x3)] [] m27)) ∧ (¬ (z11 = z26) → (False))))))))))) : Wq l G true Y_Law 400 Q 891 [(0, .inr (.inr 1000)), (1, .inr (.inr 0)), (2, .inr (.inr 70)), (3, .inl x3)] [] m := by
  refine Wp.wf (fun hw _ hl hs => ?_)
  have H0 := H hw (hl _ (List.mem_of_getElem? (i := 3) rfl))
  refine Wp.aload_n 1 1 d_Law_891 rfl rfl ?_
  refine Wp.aload_n 0 0 d_Law_892 rfl rfl ?_
  refine Wp.iload_n 3 3 d_Law_893 rfl rfl ?_
  refine Wp.iconst d_Law_894 (by decide) ?_
  obtain ⟨s1, H2⟩ := H0
  refine Wp.iadd d_Law_895 s1 ?_
  obtain ⟨s3, H4⟩ := H2
  refine Wp.sald d_Law_896 s3.1 s3.2 ?_
  obtain ⟨e5, P6, hd7, ho8, H9⟩ := H4
  refine Wq.VI (st := []) [.inl (g_x G ((x3 + 1)).toNat)] d_Law_897 k_S_nought ml_Law_135 rfl rfl rfl (fun _ => by decide) (Nat.le_of_ble_eq_true rfl) hd7 ho8 (fun z11 m12 hp13 hz14 hw15 => ?_)
  have H10 := H9 z11 m12 hp13 hz14 hw15
  refine Wp.aload_n 2 2 d_Law_900 rfl rfl ?_
  refine Wp.aload_n 0 0 d_Law_901 rfl rfl ?_
  refine Wp.iload_n 3 3 d_Law_902 rfl rfl ?_
  refine Wp.iconst d_Law_903 (by decide) ?_
  obtain ⟨s16, H17⟩ := H10
  refine Wp.iadd d_Law_904 s16 ?_
  obtain ⟨s18, H19⟩ := H17
  refine Wp.sald d_Law_905 s18.1 s18.2 ?_
  obtain ⟨e20, P21, hd22, ho23, H24⟩ := H19
  refine Wq.VI (st := [.inl z11]) [.inl (g_x G ((x3 + 1)).toNat)] d_Law_906 k_M_nought ml_Law_138 rfl rfl rfl (fun _ => by decide) (Nat.le_of_ble_eq_true rfl) hd22 ho23 (fun z26 m27 hp28 hz29 hw30 => ?_)
  have H25 := H24 z26 m27 hp28 hz29 hw30
  obtain ⟨H32, H33⟩ := H25
  refine Wp.icmp_eq 1542 d_Law_909 (by decide) (fun c31 => ?_) (fun c31 => ?_)
  · have H34 := H32 c31
    exact H34
  · have H35 := H33 c31
    refine Wp.iconst d_Law_912 (by decide) ?_
    exact H35.elim
theorem s_Law_914 {l : Launch} {G : GT} {Q : Option MV → MM → Nat → Prop} {m : MM} (x3 : Int) (H : wfM m → inR x3 → (inR (x3 + 1)) ∧ ((0 ≤ (x3 + 1) ∧ (x3 + 1) < (g_L G : Int)) ∧ (∃ (e5 : Nat) (P6 : Int → MM → Prop), e5 < 400 ∧ CI l G Y_S_own e5 [.inr (.inr 0), .inl (g_x G ((x3 + 1)).toNat)] m P6 ∧ (∀ z11 m12, P6 z11 m12 → inR z11 → wfM m12 → ((inR (x3 + 1)) ∧ ((0 ≤ (x3 + 1) ∧ (x3 + 1) < (g_L G : Int)) ∧ (∃ (e20 : Nat) (P21 : Int → MM → Prop), e20 < 400 ∧ CI l G Y_M_own e20 [.inr (.inr 70), .inl (g_x G ((x3 + 1)).toNat)] m12 P21 ∧ (∀ z26 m27, P21 z26 m27 → inR z26 → wfM m27 → ((z11 = z26 → (Wq l G true Y_Law 400 Q 1542 [(0, .inr (.inr 1000)), (1, .inr (.inr 0)), (2, .inr (.inr 70)), (3, .inl x3)] [] m27)) ∧ (¬ (z11 = z26) → (False))))))))))) : Wq l G true Y_Law 400 Q 914 [(0, .inr (.inr 1000)), (1, .inr (.inr 0)), (2, .inr (.inr 70)), (3, .inl x3)] [] m := by
  refine Wp.wf (fun hw _ hl hs => ?_)
  have H0 := H hw (hl _ (List.mem_of_getElem? (i := 3) rfl))
  refine Wp.aload_n 1 1 d_Law_914 rfl rfl ?_
  refine Wp.aload_n 0 0 d_Law_915 rfl rfl ?_
  refine Wp.iload_n 3 3 d_Law_916 rfl rfl ?_
  refine Wp.iconst d_Law_917 (by decide) ?_
  obtain ⟨s1, H2⟩ := H0
  refine Wp.iadd d_Law_918 s1 ?_
  obtain ⟨s3, H4⟩ := H2
  refine Wp.sald d_Law_919 s3.1 s3.2 ?_
  obtain ⟨e5, P6, hd7, ho8, H9⟩ := H4
  refine Wq.VI (st := []) [.inl (g_x G ((x3 + 1)).toNat)] d_Law_920 k_S_own ml_Law_139 rfl rfl rfl (fun _ => by decide) (Nat.le_of_ble_eq_true rfl) hd7 ho8 (fun z11 m12 hp13 hz14 hw15 => ?_)
  have H10 := H9 z11 m12 hp13 hz14 hw15
  refine Wp.aload_n 2 2 d_Law_923 rfl rfl ?_
  refine Wp.aload_n 0 0 d_Law_924 rfl rfl ?_
  refine Wp.iload_n 3 3 d_Law_925 rfl rfl ?_
  refine Wp.iconst d_Law_926 (by decide) ?_
  obtain ⟨s16, H17⟩ := H10
  refine Wp.iadd d_Law_927 s16 ?_
  obtain ⟨s18, H19⟩ := H17
  refine Wp.sald d_Law_928 s18.1 s18.2 ?_
  obtain ⟨e20, P21, hd22, ho23, H24⟩ := H19
  refine Wq.VI (st := [.inl z11]) [.inl (g_x G ((x3 + 1)).toNat)] d_Law_929 k_M_own ml_Law_142 rfl rfl rfl (fun _ => by decide) (Nat.le_of_ble_eq_true rfl) hd22 ho23 (fun z26 m27 hp28 hz29 hw30 => ?_)
  have H25 := H24 z26 m27 hp28 hz29 hw30
  obtain ⟨H32, H33⟩ := H25
  refine Wp.icmp_eq 1542 d_Law_932 (by decide) (fun c31 => ?_) (fun c31 => ?_)
  · have H34 := H32 c31
    exact H34
  · have H35 := H33 c31
    refine Wp.iconst d_Law_935 (by decide) ?_
    exact H35.elim
theorem s_Law_937 {l : Launch} {G : GT} {Q : Option MV → MM → Nat → Prop} {m : MM} (x3 : Int) (H : wfM m → inR x3 → (inR (x3 + 1)) ∧ ((0 ≤ (x3 + 1) ∧ (x3 + 1) < (g_L G : Int)) ∧ (∃ (e5 : Nat) (P6 : Int → MM → Prop), e5 < 400 ∧ CI l G Y_S_bare e5 [.inr (.inr 0), .inl (g_x G ((x3 + 1)).toNat)] m P6 ∧ (∀ z11 m12, P6 z11 m12 → inR z11 → wfM m12 → ((inR (x3 + 1)) ∧ ((0 ≤ (x3 + 1) ∧ (x3 + 1) < (g_L G : Int)) ∧ (∃ (e20 : Nat) (P21 : Int → MM → Prop), e20 < 400 ∧ CI l G Y_M_bare e20 [.inr (.inr 70), .inl (g_x G ((x3 + 1)).toNat)] m12 P21 ∧ (∀ z26 m27, P21 z26 m27 → inR z26 → wfM m27 → ((z11 = z26 → (Wq l G true Y_Law 400 Q 1542 [(0, .inr (.inr 1000)), (1, .inr (.inr 0)), (2, .inr (.inr 70)), (3, .inl x3)] [] m27)) ∧ (¬ (z11 = z26) → (False))))))))))) : Wq l G true Y_Law 400 Q 937 [(0, .inr (.inr 1000)), (1, .inr (.inr 0)), (2, .inr (.inr 70)), (3, .inl x3)] [] m := by
  refine Wp.wf (fun hw _ hl hs => ?_)
  have H0 := H hw (hl _ (List.mem_of_getElem? (i := 3) rfl))
  refine Wp.aload_n 1 1 d_Law_937 rfl rfl ?_
  refine Wp.aload_n 0 0 d_Law_938 rfl rfl ?_
  refine Wp.iload_n 3 3 d_Law_939 rfl rfl ?_
  refine Wp.iconst d_Law_940 (by decide) ?_
  obtain ⟨s1, H2⟩ := H0
  refine Wp.iadd d_Law_941 s1 ?_
  obtain ⟨s3, H4⟩ := H2
  refine Wp.sald d_Law_942 s3.1 s3.2 ?_
  obtain ⟨e5, P6, hd7, ho8, H9⟩ := H4
  refine Wq.VI (st := []) [.inl (g_x G ((x3 + 1)).toNat)] d_Law_943 k_S_bare ml_Law_143 rfl rfl rfl (fun _ => by decide) (Nat.le_of_ble_eq_true rfl) hd7 ho8 (fun z11 m12 hp13 hz14 hw15 => ?_)
  have H10 := H9 z11 m12 hp13 hz14 hw15
  refine Wp.aload_n 2 2 d_Law_946 rfl rfl ?_
  refine Wp.aload_n 0 0 d_Law_947 rfl rfl ?_
  refine Wp.iload_n 3 3 d_Law_948 rfl rfl ?_
  refine Wp.iconst d_Law_949 (by decide) ?_
  obtain ⟨s16, H17⟩ := H10
  refine Wp.iadd d_Law_950 s16 ?_
  obtain ⟨s18, H19⟩ := H17
  refine Wp.sald d_Law_951 s18.1 s18.2 ?_
  obtain ⟨e20, P21, hd22, ho23, H24⟩ := H19
  refine Wq.VI (st := [.inl z11]) [.inl (g_x G ((x3 + 1)).toNat)] d_Law_952 k_M_bare ml_Law_146 rfl rfl rfl (fun _ => by decide) (Nat.le_of_ble_eq_true rfl) hd22 ho23 (fun z26 m27 hp28 hz29 hw30 => ?_)
  have H25 := H24 z26 m27 hp28 hz29 hw30
  obtain ⟨H32, H33⟩ := H25
  refine Wp.icmp_eq 1542 d_Law_955 (by decide) (fun c31 => ?_) (fun c31 => ?_)
  · have H34 := H32 c31
    exact H34
  · have H35 := H33 c31
    refine Wp.iconst d_Law_958 (by decide) ?_
    exact H35.elim
theorem s_Law_960 {l : Launch} {G : GT} {Q : Option MV → MM → Nat → Prop} {m : MM} (x3 : Int) (H : wfM m → inR x3 → (inR (x3 + 1)) ∧ ((0 ≤ (x3 + 1) ∧ (x3 + 1) < (g_L G : Int)) ∧ (∃ (e5 : Nat) (P6 : Int → MM → Prop), e5 < 400 ∧ CI l G Y_S_sum e5 [.inr (.inr 0), .inl (g_x G ((x3 + 1)).toNat)] m P6 ∧ (∀ z11 m12, P6 z11 m12 → inR z11 → wfM m12 → ((inR (x3 + 1)) ∧ ((0 ≤ (x3 + 1) ∧ (x3 + 1) < (g_L G : Int)) ∧ (∃ (e20 : Nat) (P21 : Int → MM → Prop), e20 < 400 ∧ CI l G Y_M_sum e20 [.inr (.inr 70), .inl (g_x G ((x3 + 1)).toNat)] m12 P21 ∧ (∀ z26 m27, P21 z26 m27 → inR z26 → wfM m27 → ((z11 = z26 → (Wq l G true Y_Law 400 Q 1542 [(0, .inr (.inr 1000)), (1, .inr (.inr 0)), (2, .inr (.inr 70)), (3, .inl x3)] [] m27)) ∧ (¬ (z11 = z26) → (False))))))))))) : Wq l G true Y_Law 400 Q 960 [(0, .inr (.inr 1000)), (1, .inr (.inr 0)), (2, .inr (.inr 70)), (3, .inl x3)] [] m := by
  refine Wp.wf (fun hw _ hl hs => ?_)
  have H0 := H hw (hl _ (List.mem_of_getElem? (i := 3) rfl))
  refine Wp.aload_n 1 1 d_Law_960 rfl rfl ?_
  refine Wp.aload_n 0 0 d_Law_961 rfl rfl ?_
  refine Wp.iload_n 3 3 d_Law_962 rfl rfl ?_
  refine Wp.iconst d_Law_963 (by decide) ?_
  obtain ⟨s1, H2⟩ := H0
  refine Wp.iadd d_Law_964 s1 ?_
  obtain ⟨s3, H4⟩ := H2
  refine Wp.sald d_Law_965 s3.1 s3.2 ?_
  obtain ⟨e5, P6, hd7, ho8, H9⟩ := H4
  refine Wq.VI (st := []) [.inl (g_x G ((x3 + 1)).toNat)] d_Law_966 k_S_sum ml_Law_147 rfl rfl rfl (fun _ => by decide) (Nat.le_of_ble_eq_true rfl) hd7 ho8 (fun z11 m12 hp13 hz14 hw15 => ?_)
  have H10 := H9 z11 m12 hp13 hz14 hw15
  refine Wp.aload_n 2 2 d_Law_969 rfl rfl ?_
  refine Wp.aload_n 0 0 d_Law_970 rfl rfl ?_
  refine Wp.iload_n 3 3 d_Law_971 rfl rfl ?_
  refine Wp.iconst d_Law_972 (by decide) ?_
  obtain ⟨s16, H17⟩ := H10
  refine Wp.iadd d_Law_973 s16 ?_
  obtain ⟨s18, H19⟩ := H17
  refine Wp.sald d_Law_974 s18.1 s18.2 ?_
  obtain ⟨e20, P21, hd22, ho23, H24⟩ := H19
  refine Wq.VI (st := [.inl z11]) [.inl (g_x G ((x3 + 1)).toNat)] d_Law_975 k_M_sum ml_Law_150 rfl rfl rfl (fun _ => by decide) (Nat.le_of_ble_eq_true rfl) hd22 ho23 (fun z26 m27 hp28 hz29 hw30 => ?_)
  have H25 := H24 z26 m27 hp28 hz29 hw30
  obtain ⟨H32, H33⟩ := H25
  refine Wp.icmp_eq 1542 d_Law_978 (by decide) (fun c31 => ?_) (fun c31 => ?_)
  · have H34 := H32 c31
    exact H34
  · have H35 := H33 c31
    refine Wp.iconst d_Law_981 (by decide) ?_
    exact H35.elim
theorem s_Law_983 {l : Launch} {G : GT} {Q : Option MV → MM → Nat → Prop} {m : MM} (x3 : Int) (H : wfM m → inR x3 → (inR (x3 + 1)) ∧ ((0 ≤ (x3 + 1) ∧ (x3 + 1) < (g_L G : Int)) ∧ (∃ (e5 : Nat) (P6 : Int → MM → Prop), e5 < 400 ∧ CI l G Y_S_one e5 [.inr (.inr 0), .inl (g_x G ((x3 + 1)).toNat)] m P6 ∧ (∀ z11 m12, P6 z11 m12 → inR z11 → wfM m12 → ((inR (x3 + 1)) ∧ ((0 ≤ (x3 + 1) ∧ (x3 + 1) < (g_L G : Int)) ∧ (∃ (e20 : Nat) (P21 : Int → MM → Prop), e20 < 400 ∧ CI l G Y_M_one e20 [.inr (.inr 70), .inl (g_x G ((x3 + 1)).toNat)] m12 P21 ∧ (∀ z26 m27, P21 z26 m27 → inR z26 → wfM m27 → ((z11 = z26 → (Wq l G true Y_Law 400 Q 1542 [(0, .inr (.inr 1000)), (1, .inr (.inr 0)), (2, .inr (.inr 70)), (3, .inl x3)] [] m27)) ∧ (¬ (z11 = z26) → (False))))))))))) : Wq l G true Y_Law 400 Q 983 [(0, .inr (.inr 1000)), (1, .inr (.inr 0)), (2, .inr (.inr 70)), (3, .inl x3)] [] m := by
  refine Wp.wf (fun hw _ hl hs => ?_)
  have H0 := H hw (hl _ (List.mem_of_getElem? (i := 3) rfl))
  refine Wp.aload_n 1 1 d_Law_983 rfl rfl ?_
  refine Wp.aload_n 0 0 d_Law_984 rfl rfl ?_
  refine Wp.iload_n 3 3 d_Law_985 rfl rfl ?_
  refine Wp.iconst d_Law_986 (by decide) ?_
  obtain ⟨s1, H2⟩ := H0
  refine Wp.iadd d_Law_987 s1 ?_
  obtain ⟨s3, H4⟩ := H2
  refine Wp.sald d_Law_988 s3.1 s3.2 ?_
  obtain ⟨e5, P6, hd7, ho8, H9⟩ := H4
  refine Wq.VI (st := []) [.inl (g_x G ((x3 + 1)).toNat)] d_Law_989 k_S_one ml_Law_151 rfl rfl rfl (fun _ => by decide) (Nat.le_of_ble_eq_true rfl) hd7 ho8 (fun z11 m12 hp13 hz14 hw15 => ?_)
  have H10 := H9 z11 m12 hp13 hz14 hw15
  refine Wp.aload_n 2 2 d_Law_992 rfl rfl ?_
  refine Wp.aload_n 0 0 d_Law_993 rfl rfl ?_
  refine Wp.iload_n 3 3 d_Law_994 rfl rfl ?_
  refine Wp.iconst d_Law_995 (by decide) ?_
  obtain ⟨s16, H17⟩ := H10
  refine Wp.iadd d_Law_996 s16 ?_
  obtain ⟨s18, H19⟩ := H17
  refine Wp.sald d_Law_997 s18.1 s18.2 ?_
  obtain ⟨e20, P21, hd22, ho23, H24⟩ := H19
  refine Wq.VI (st := [.inl z11]) [.inl (g_x G ((x3 + 1)).toNat)] d_Law_998 k_M_one ml_Law_154 rfl rfl rfl (fun _ => by decide) (Nat.le_of_ble_eq_true rfl) hd22 ho23 (fun z26 m27 hp28 hz29 hw30 => ?_)
  have H25 := H24 z26 m27 hp28 hz29 hw30
  obtain ⟨H32, H33⟩ := H25
  refine Wp.icmp_eq 1542 d_Law_1001 (by decide) (fun c31 => ?_) (fun c31 => ?_)
  · have H34 := H32 c31
    exact H34
  · have H35 := H33 c31
    refine Wp.iconst d_Law_1004 (by decide) ?_
    exact H35.elim
theorem s_Law_1006 {l : Launch} {G : GT} {Q : Option MV → MM → Nat → Prop} {m : MM} (x3 : Int) (H : wfM m → inR x3 → ∃ (e1 : Nat) (P2 : Int → MM → Prop), e1 < 400 ∧ CI l G Y_S_cycle e1 [.inr (.inr 0)] m P2 ∧ (∀ z7 m8, P2 z7 m8 → inR z7 → wfM m8 → (∃ (e12 : Nat) (P13 : Int → MM → Prop), e12 < 400 ∧ CI l G Y_M_cycle e12 [.inr (.inr 70)] m8 P13 ∧ (∀ z18 m19, P13 z18 m19 → inR z18 → wfM m19 → ((z7 = z18 → (Wq l G true Y_Law 400 Q 1542 [(0, .inr (.inr 1000)), (1, .inr (.inr 0)), (2, .inr (.inr 70)), (3, .inl x3)] [] m19)) ∧ (¬ (z7 = z18) → (False))))))) : Wq l G true Y_Law 400 Q 1006 [(0, .inr (.inr 1000)), (1, .inr (.inr 0)), (2, .inr (.inr 70)), (3, .inl x3)] [] m := by
  refine Wp.wf (fun hw _ hl hs => ?_)
  have H0 := H hw (hl _ (List.mem_of_getElem? (i := 3) rfl))
  refine Wp.aload_n 1 1 d_Law_1006 rfl rfl ?_
  obtain ⟨e1, P2, hd3, ho4, H5⟩ := H0
  refine Wq.VI (st := []) [] d_Law_1007 k_S_cycle ml_Law_155 rfl rfl rfl (fun _ => by decide) (Nat.le_of_ble_eq_true rfl) hd3 ho4 (fun z7 m8 hp9 hz10 hw11 => ?_)
  have H6 := H5 z7 m8 hp9 hz10 hw11
  refine Wp.aload_n 2 2 d_Law_1010 rfl rfl ?_
  obtain ⟨e12, P13, hd14, ho15, H16⟩ := H6
  refine Wq.VI (st := [.inl z7]) [] d_Law_1011 k_M_cycle ml_Law_158 rfl rfl rfl (fun _ => by decide) (Nat.le_of_ble_eq_true rfl) hd14 ho15 (fun z18 m19 hp20 hz21 hw22 => ?_)
  have H17 := H16 z18 m19 hp20 hz21 hw22
  obtain ⟨H24, H25⟩ := H17
  refine Wp.icmp_eq 1542 d_Law_1014 (by decide) (fun c23 => ?_) (fun c23 => ?_)
  · have H26 := H24 c23
    exact H26
  · have H27 := H25 c23
    refine Wp.iconst d_Law_1017 (by decide) ?_
    exact H27.elim
theorem s_Law_1019 {l : Launch} {G : GT} {Q : Option MV → MM → Nat → Prop} {m : MM} (x3 : Int) (H : wfM m → inR x3 → (inR (x3 + 1)) ∧ ((0 ≤ (x3 + 1) ∧ (x3 + 1) < (g_L G : Int)) ∧ (∃ (e5 : Nat) (P6 : Int → MM → Prop), e5 < 400 ∧ CI l G Y_S_wheel e5 [.inr (.inr 0), .inl (g_x G ((x3 + 1)).toNat)] m P6 ∧ (∀ z11 m12, P6 z11 m12 → inR z11 → wfM m12 → ((inR (x3 + 1)) ∧ ((0 ≤ (x3 + 1) ∧ (x3 + 1) < (g_L G : Int)) ∧ (∃ (e20 : Nat) (P21 : Int → MM → Prop), e20 < 400 ∧ CI l G Y_M_wheel e20 [.inr (.inr 70), .inl (g_x G ((x3 + 1)).toNat)] m12 P21 ∧ (∀ z26 m27, P21 z26 m27 → inR z26 → wfM m27 → ((z11 = z26 → (Wq l G true Y_Law 400 Q 1542 [(0, .inr (.inr 1000)), (1, .inr (.inr 0)), (2, .inr (.inr 70)), (3, .inl x3)] [] m27)) ∧ (¬ (z11 = z26) → (False))))))))))) : Wq l G true Y_Law 400 Q 1019 [(0, .inr (.inr 1000)), (1, .inr (.inr 0)), (2, .inr (.inr 70)), (3, .inl x3)] [] m := by
  refine Wp.wf (fun hw _ hl hs => ?_)
  have H0 := H hw (hl _ (List.mem_of_getElem? (i := 3) rfl))
  refine Wp.aload_n 1 1 d_Law_1019 rfl rfl ?_
  refine Wp.aload_n 0 0 d_Law_1020 rfl rfl ?_
  refine Wp.iload_n 3 3 d_Law_1021 rfl rfl ?_
  refine Wp.iconst d_Law_1022 (by decide) ?_
  obtain ⟨s1, H2⟩ := H0
  refine Wp.iadd d_Law_1023 s1 ?_
  obtain ⟨s3, H4⟩ := H2
  refine Wp.sald d_Law_1024 s3.1 s3.2 ?_
  obtain ⟨e5, P6, hd7, ho8, H9⟩ := H4
  refine Wq.VI (st := []) [.inl (g_x G ((x3 + 1)).toNat)] d_Law_1025 k_S_wheel ml_Law_159 rfl rfl rfl (fun _ => by decide) (Nat.le_of_ble_eq_true rfl) hd7 ho8 (fun z11 m12 hp13 hz14 hw15 => ?_)
  have H10 := H9 z11 m12 hp13 hz14 hw15
  refine Wp.aload_n 2 2 d_Law_1028 rfl rfl ?_
  refine Wp.aload_n 0 0 d_Law_1029 rfl rfl ?_
  refine Wp.iload_n 3 3 d_Law_1030 rfl rfl ?_
  refine Wp.iconst d_Law_1031 (by decide) ?_
  obtain ⟨s16, H17⟩ := H10
  refine Wp.iadd d_Law_1032 s16 ?_
  obtain ⟨s18, H19⟩ := H17
  refine Wp.sald d_Law_1033 s18.1 s18.2 ?_
  obtain ⟨e20, P21, hd22, ho23, H24⟩ := H19
  refine Wq.VI (st := [.inl z11]) [.inl (g_x G ((x3 + 1)).toNat)] d_Law_1034 k_M_wheel ml_Law_162 rfl rfl rfl (fun _ => by decide) (Nat.le_of_ble_eq_true rfl) hd22 ho23 (fun z26 m27 hp28 hz29 hw30 => ?_)
  have H25 := H24 z26 m27 hp28 hz29 hw30
  obtain ⟨H32, H33⟩ := H25
  refine Wp.icmp_eq 1542 d_Law_1037 (by decide) (fun c31 => ?_) (fun c31 => ?_)
  · have H34 := H32 c31
    exact H34
  · have H35 := H33 c31
    refine Wp.iconst d_Law_1040 (by decide) ?_
    exact H35.elim
theorem s_Law_1042 {l : Launch} {G : GT} {Q : Option MV → MM → Nat → Prop} {m : MM} (x3 : Int) (H : wfM m → inR x3 → ∃ (e1 : Nat) (P2 : Int → MM → Prop), e1 < 400 ∧ CI l G Y_S_credit e1 [.inr (.inr 0)] m P2 ∧ (∀ z7 m8, P2 z7 m8 → inR z7 → wfM m8 → (∃ (e12 : Nat) (P13 : Int → MM → Prop), e12 < 400 ∧ CI l G Y_M_credit e12 [.inr (.inr 70)] m8 P13 ∧ (∀ z18 m19, P13 z18 m19 → inR z18 → wfM m19 → ((z7 = z18 → (Wq l G true Y_Law 400 Q 1542 [(0, .inr (.inr 1000)), (1, .inr (.inr 0)), (2, .inr (.inr 70)), (3, .inl x3)] [] m19)) ∧ (¬ (z7 = z18) → (False))))))) : Wq l G true Y_Law 400 Q 1042 [(0, .inr (.inr 1000)), (1, .inr (.inr 0)), (2, .inr (.inr 70)), (3, .inl x3)] [] m := by
  refine Wp.wf (fun hw _ hl hs => ?_)
  have H0 := H hw (hl _ (List.mem_of_getElem? (i := 3) rfl))
  refine Wp.aload_n 1 1 d_Law_1042 rfl rfl ?_
  obtain ⟨e1, P2, hd3, ho4, H5⟩ := H0
  refine Wq.VI (st := []) [] d_Law_1043 k_S_credit ml_Law_163 rfl rfl rfl (fun _ => by decide) (Nat.le_of_ble_eq_true rfl) hd3 ho4 (fun z7 m8 hp9 hz10 hw11 => ?_)
  have H6 := H5 z7 m8 hp9 hz10 hw11
  refine Wp.aload_n 2 2 d_Law_1046 rfl rfl ?_
  obtain ⟨e12, P13, hd14, ho15, H16⟩ := H6
  refine Wq.VI (st := [.inl z7]) [] d_Law_1047 k_M_credit ml_Law_166 rfl rfl rfl (fun _ => by decide) (Nat.le_of_ble_eq_true rfl) hd14 ho15 (fun z18 m19 hp20 hz21 hw22 => ?_)
  have H17 := H16 z18 m19 hp20 hz21 hw22
  obtain ⟨H24, H25⟩ := H17
  refine Wp.icmp_eq 1542 d_Law_1050 (by decide) (fun c23 => ?_) (fun c23 => ?_)
  · have H26 := H24 c23
    exact H26
  · have H27 := H25 c23
    refine Wp.iconst d_Law_1053 (by decide) ?_
    exact H27.elim
theorem s_Law_1055 {l : Launch} {G : GT} {Q : Option MV → MM → Nat → Prop} {m : MM} (x3 : Int) (H : wfM m → inR x3 → (inR (x3 + 1)) ∧ ((0 ≤ (x3 + 1) ∧ (x3 + 1) < (g_L G : Int)) ∧ (∃ (e5 : Nat) (P6 : Int → MM → Prop), e5 < 400 ∧ CI l G Y_S_rank e5 [.inr (.inr 0), .inl (g_x G ((x3 + 1)).toNat)] m P6 ∧ (∀ z11 m12, P6 z11 m12 → inR z11 → wfM m12 → ((inR (x3 + 1)) ∧ ((0 ≤ (x3 + 1) ∧ (x3 + 1) < (g_L G : Int)) ∧ (∃ (e20 : Nat) (P21 : Int → MM → Prop), e20 < 400 ∧ CI l G Y_M_rank e20 [.inr (.inr 70), .inl (g_x G ((x3 + 1)).toNat)] m12 P21 ∧ (∀ z26 m27, P21 z26 m27 → inR z26 → wfM m27 → ((z11 = z26 → (Wq l G true Y_Law 400 Q 1542 [(0, .inr (.inr 1000)), (1, .inr (.inr 0)), (2, .inr (.inr 70)), (3, .inl x3)] [] m27)) ∧ (¬ (z11 = z26) → (False))))))))))) : Wq l G true Y_Law 400 Q 1055 [(0, .inr (.inr 1000)), (1, .inr (.inr 0)), (2, .inr (.inr 70)), (3, .inl x3)] [] m := by
  refine Wp.wf (fun hw _ hl hs => ?_)
  have H0 := H hw (hl _ (List.mem_of_getElem? (i := 3) rfl))
  refine Wp.aload_n 1 1 d_Law_1055 rfl rfl ?_
  refine Wp.aload_n 0 0 d_Law_1056 rfl rfl ?_
  refine Wp.iload_n 3 3 d_Law_1057 rfl rfl ?_
  refine Wp.iconst d_Law_1058 (by decide) ?_
  obtain ⟨s1, H2⟩ := H0
  refine Wp.iadd d_Law_1059 s1 ?_
  obtain ⟨s3, H4⟩ := H2
  refine Wp.sald d_Law_1060 s3.1 s3.2 ?_
  obtain ⟨e5, P6, hd7, ho8, H9⟩ := H4
  refine Wq.VI (st := []) [.inl (g_x G ((x3 + 1)).toNat)] d_Law_1061 k_S_rank ml_Law_167 rfl rfl rfl (fun _ => by decide) (Nat.le_of_ble_eq_true rfl) hd7 ho8 (fun z11 m12 hp13 hz14 hw15 => ?_)
  have H10 := H9 z11 m12 hp13 hz14 hw15
  refine Wp.aload_n 2 2 d_Law_1064 rfl rfl ?_
  refine Wp.aload_n 0 0 d_Law_1065 rfl rfl ?_
  refine Wp.iload_n 3 3 d_Law_1066 rfl rfl ?_
  refine Wp.iconst d_Law_1067 (by decide) ?_
  obtain ⟨s16, H17⟩ := H10
  refine Wp.iadd d_Law_1068 s16 ?_
  obtain ⟨s18, H19⟩ := H17
  refine Wp.sald d_Law_1069 s18.1 s18.2 ?_
  obtain ⟨e20, P21, hd22, ho23, H24⟩ := H19
  refine Wq.VI (st := [.inl z11]) [.inl (g_x G ((x3 + 1)).toNat)] d_Law_1070 k_M_rank ml_Law_170 rfl rfl rfl (fun _ => by decide) (Nat.le_of_ble_eq_true rfl) hd22 ho23 (fun z26 m27 hp28 hz29 hw30 => ?_)
  have H25 := H24 z26 m27 hp28 hz29 hw30
  obtain ⟨H32, H33⟩ := H25
  refine Wp.icmp_eq 1542 d_Law_1073 (by decide) (fun c31 => ?_) (fun c31 => ?_)
  · have H34 := H32 c31
    exact H34
  · have H35 := H33 c31
    refine Wp.iconst d_Law_1076 (by decide) ?_
    exact H35.elim
theorem s_Law_1078 {l : Launch} {G : GT} {Q : Option MV → MM → Nat → Prop} {m : MM} (x3 : Int) (H : wfM m → inR x3 → (inR (x3 + 1)) ∧ ((0 ≤ (x3 + 1) ∧ (x3 + 1) < (g_L G : Int)) ∧ ((inR (x3 + 2)) ∧ ((0 ≤ (x3 + 2) ∧ (x3 + 2) < (g_L G : Int)) ∧ ((inR (x3 + 3)) ∧ ((0 ≤ (x3 + 3) ∧ (x3 + 3) < (g_L G : Int)) ∧ (∃ (e13 : Nat) (P14 : Int → MM → Prop), e13 < 400 ∧ CI l G Y_S_mean e13 [.inr (.inr 0), .inl (g_x G ((x3 + 1)).toNat), .inl (g_x G ((x3 + 2)).toNat), .inl (g_x G ((x3 + 3)).toNat)] m P14 ∧ (∀ z19 m20, P14 z19 m20 → inR z19 → wfM m20 → ((inR (x3 + 1)) ∧ ((0 ≤ (x3 + 1) ∧ (x3 + 1) < (g_L G : Int)) ∧ ((inR (x3 + 2)) ∧ ((0 ≤ (x3 + 2) ∧ (x3 + 2) < (g_L G : Int)) ∧ ((inR (x3 + 3)) ∧ ((0 ≤ (x3 + 3) ∧ (x3 + 3) < (g_L G : Int)) ∧ (∃ (e36 : Nat) (P37 : Int → MM → Prop), e36 < 400 ∧ CI l G Y_M_mean e36 [.inr (.inr 70), .inl (g_x G ((x3 + 1)).toNat), .inl (g_x G ((x3 + 2)).toNat), .inl (g_x G ((x3 + 3)).toNat)] m20 P37 ∧ (∀ z42 m43, P37 z42 m43 → inR z42 → wfM m43 → ((z19 = z42 → (Wq l G true Y_Law 400 Q 1542 [(0, .inr (.inr 1000)), (1, .inr (.inr 0)), (2, .inr (.inr 70)), (3, .inl x3)] [] m43)) ∧ (¬ (z19 = z42) → (False))))))))))))))))))) : Wq l G true Y_Law 400 Q 1078 [(0, .inr (.inr 1000)), (1, .inr (.inr 0)), (2, .inr (.inr 70)), (3, .inl x3)] [] m := by
  refine Wp.wf (fun hw _ hl hs => ?_)
  have H0 := H hw (hl _ (List.mem_of_getElem? (i := 3) rfl))
  refine Wp.aload_n 1 1 d_Law_1078 rfl rfl ?_
  refine Wp.aload_n 0 0 d_Law_1079 rfl rfl ?_
  refine Wp.iload_n 3 3 d_Law_1080 rfl rfl ?_
  refine Wp.iconst d_Law_1081 (by decide) ?_
  obtain ⟨s1, H2⟩ := H0
  refine Wp.iadd d_Law_1082 s1 ?_
  obtain ⟨s3, H4⟩ := H2
  refine Wp.sald d_Law_1083 s3.1 s3.2 ?_
  refine Wp.aload_n 0 0 d_Law_1084 rfl rfl ?_
  refine Wp.iload_n 3 3 d_Law_1085 rfl rfl ?_
  refine Wp.iconst d_Law_1086 (by decide) ?_
  obtain ⟨s5, H6⟩ := H4
  refine Wp.iadd d_Law_1087 s5 ?_
  obtain ⟨s7, H8⟩ := H6
  refine Wp.sald d_Law_1088 s7.1 s7.2 ?_
  refine Wp.aload_n 0 0 d_Law_1089 rfl rfl ?_
  refine Wp.iload_n 3 3 d_Law_1090 rfl rfl ?_
  refine Wp.iconst d_Law_1091 (by decide) ?_
  obtain ⟨s9, H10⟩ := H8
  refine Wp.iadd d_Law_1092 s9 ?_
  obtain ⟨s11, H12⟩ := H10
  refine Wp.sald d_Law_1093 s11.1 s11.2 ?_
  obtain ⟨e13, P14, hd15, ho16, H17⟩ := H12
  refine Wq.VI (st := []) [.inl (g_x G ((x3 + 1)).toNat), .inl (g_x G ((x3 + 2)).toNat), .inl (g_x G ((x3 + 3)).toNat)] d_Law_1094 k_S_mean ml_Law_171 rfl rfl rfl (fun _ => by decide) (Nat.le_of_ble_eq_true rfl) hd15 ho16 (fun z19 m20 hp21 hz22 hw23 => ?_)
  have H18 := H17 z19 m20 hp21 hz22 hw23
  refine Wp.aload_n 2 2 d_Law_1097 rfl rfl ?_
  refine Wp.aload_n 0 0 d_Law_1098 rfl rfl ?_
  refine Wp.iload_n 3 3 d_Law_1099 rfl rfl ?_
  refine Wp.iconst d_Law_1100 (by decide) ?_
  obtain ⟨s24, H25⟩ := H18
  refine Wp.iadd d_Law_1101 s24 ?_
  obtain ⟨s26, H27⟩ := H25
  refine Wp.sald d_Law_1102 s26.1 s26.2 ?_
  refine Wp.aload_n 0 0 d_Law_1103 rfl rfl ?_
  refine Wp.iload_n 3 3 d_Law_1104 rfl rfl ?_
  refine Wp.iconst d_Law_1105 (by decide) ?_
  obtain ⟨s28, H29⟩ := H27
  refine Wp.iadd d_Law_1106 s28 ?_
  obtain ⟨s30, H31⟩ := H29
  refine Wp.sald d_Law_1107 s30.1 s30.2 ?_
  refine Wp.aload_n 0 0 d_Law_1108 rfl rfl ?_
  refine Wp.iload_n 3 3 d_Law_1109 rfl rfl ?_
  refine Wp.iconst d_Law_1110 (by decide) ?_
  obtain ⟨s32, H33⟩ := H31
  refine Wp.iadd d_Law_1111 s32 ?_
  obtain ⟨s34, H35⟩ := H33
  refine Wp.sald d_Law_1112 s34.1 s34.2 ?_
  obtain ⟨e36, P37, hd38, ho39, H40⟩ := H35
  refine Wq.VI (st := [.inl z19]) [.inl (g_x G ((x3 + 1)).toNat), .inl (g_x G ((x3 + 2)).toNat), .inl (g_x G ((x3 + 3)).toNat)] d_Law_1113 k_M_mean ml_Law_174 rfl rfl rfl (fun _ => by decide) (Nat.le_of_ble_eq_true rfl) hd38 ho39 (fun z42 m43 hp44 hz45 hw46 => ?_)
  have H41 := H40 z42 m43 hp44 hz45 hw46
  obtain ⟨H48, H49⟩ := H41
  refine Wp.icmp_eq 1542 d_Law_1116 (by decide) (fun c47 => ?_) (fun c47 => ?_)
  · have H50 := H48 c47
    exact H50
  · have H51 := H49 c47
    refine Wp.iconst d_Law_1119 (by decide) ?_
    exact H51.elim
theorem s_Law_1121 {l : Launch} {G : GT} {Q : Option MV → MM → Nat → Prop} {m : MM} (x3 : Int) (H : wfM m → inR x3 → (inR (x3 + 1)) ∧ ((0 ≤ (x3 + 1) ∧ (x3 + 1) < (g_L G : Int)) ∧ (∃ (e5 : Nat) (P6 : Int → MM → Prop), e5 < 400 ∧ CI l G Y_S_parts e5 [.inr (.inr 0), .inl (g_x G ((x3 + 1)).toNat)] m P6 ∧ (∀ z11 m12, P6 z11 m12 → inR z11 → wfM m12 → ((inR (x3 + 1)) ∧ ((0 ≤ (x3 + 1) ∧ (x3 + 1) < (g_L G : Int)) ∧ (∃ (e20 : Nat) (P21 : Int → MM → Prop), e20 < 400 ∧ CI l G Y_M_parts e20 [.inr (.inr 70), .inl (g_x G ((x3 + 1)).toNat)] m12 P21 ∧ (∀ z26 m27, P21 z26 m27 → inR z26 → wfM m27 → ((z11 = z26 → (Wq l G true Y_Law 400 Q 1542 [(0, .inr (.inr 1000)), (1, .inr (.inr 0)), (2, .inr (.inr 70)), (3, .inl x3)] [] m27)) ∧ (¬ (z11 = z26) → (False))))))))))) : Wq l G true Y_Law 400 Q 1121 [(0, .inr (.inr 1000)), (1, .inr (.inr 0)), (2, .inr (.inr 70)), (3, .inl x3)] [] m := by
  refine Wp.wf (fun hw _ hl hs => ?_)
  have H0 := H hw (hl _ (List.mem_of_getElem? (i := 3) rfl))
  refine Wp.aload_n 1 1 d_Law_1121 rfl rfl ?_
  refine Wp.aload_n 0 0 d_Law_1122 rfl rfl ?_
  refine Wp.iload_n 3 3 d_Law_1123 rfl rfl ?_
  refine Wp.iconst d_Law_1124 (by decide) ?_
  obtain ⟨s1, H2⟩ := H0
  refine Wp.iadd d_Law_1125 s1 ?_
  obtain ⟨s3, H4⟩ := H2
  refine Wp.sald d_Law_1126 s3.1 s3.2 ?_
  obtain ⟨e5, P6, hd7, ho8, H9⟩ := H4
  refine Wq.VI (st := []) [.inl (g_x G ((x3 + 1)).toNat)] d_Law_1127 k_S_parts ml_Law_175 rfl rfl rfl (fun _ => by decide) (Nat.le_of_ble_eq_true rfl) hd7 ho8 (fun z11 m12 hp13 hz14 hw15 => ?_)
  have H10 := H9 z11 m12 hp13 hz14 hw15
  refine Wp.aload_n 2 2 d_Law_1130 rfl rfl ?_
  refine Wp.aload_n 0 0 d_Law_1131 rfl rfl ?_
  refine Wp.iload_n 3 3 d_Law_1132 rfl rfl ?_
  refine Wp.iconst d_Law_1133 (by decide) ?_
  obtain ⟨s16, H17⟩ := H10
  refine Wp.iadd d_Law_1134 s16 ?_
  obtain ⟨s18, H19⟩ := H17
  refine Wp.sald d_Law_1135 s18.1 s18.2 ?_
  obtain ⟨e20, P21, hd22, ho23, H24⟩ := H19
  refine Wq.VI (st := [.inl z11]) [.inl (g_x G ((x3 + 1)).toNat)] d_Law_1136 k_M_parts ml_Law_178 rfl rfl rfl (fun _ => by decide) (Nat.le_of_ble_eq_true rfl) hd22 ho23 (fun z26 m27 hp28 hz29 hw30 => ?_)
  have H25 := H24 z26 m27 hp28 hz29 hw30
  obtain ⟨H32, H33⟩ := H25
  refine Wp.icmp_eq 1542 d_Law_1139 (by decide) (fun c31 => ?_) (fun c31 => ?_)
  · have H34 := H32 c31
    exact H34
  · have H35 := H33 c31
    refine Wp.iconst d_Law_1142 (by decide) ?_
    exact H35.elim
theorem s_Law_1144 {l : Launch} {G : GT} {Q : Option MV → MM → Nat → Prop} {m : MM} (x3 : Int) (H : wfM m → inR x3 → (inR (x3 + 1)) ∧ ((0 ≤ (x3 + 1) ∧ (x3 + 1) < (g_L G : Int)) ∧ (∃ (e5 : Nat) (P6 : Int → MM → Prop), e5 < 400 ∧ CI l G Y_S_like e5 [.inr (.inr 0), .inl (g_x G ((x3 + 1)).toNat)] m P6 ∧ (∀ z11 m12, P6 z11 m12 → inR z11 → wfM m12 → ((inR (x3 + 1)) ∧ ((0 ≤ (x3 + 1) ∧ (x3 + 1) < (g_L G : Int)) ∧ (∃ (e20 : Nat) (P21 : Int → MM → Prop), e20 < 400 ∧ CI l G Y_M_like e20 [.inr (.inr 70), .inl (g_x G ((x3 + 1)).toNat)] m12 P21 ∧ (∀ z26 m27, P21 z26 m27 → inR z26 → wfM m27 → ((z11 = z26 → (Wq l G true Y_Law 400 Q 1542 [(0, .inr (.inr 1000)), (1, .inr (.inr 0)), (2, .inr (.inr 70)), (3, .inl x3)] [] m27)) ∧ (¬ (z11 = z26) → (False))))))))))) : Wq l G true Y_Law 400 Q 1144 [(0, .inr (.inr 1000)), (1, .inr (.inr 0)), (2, .inr (.inr 70)), (3, .inl x3)] [] m := by
  refine Wp.wf (fun hw _ hl hs => ?_)
  have H0 := H hw (hl _ (List.mem_of_getElem? (i := 3) rfl))
  refine Wp.aload_n 1 1 d_Law_1144 rfl rfl ?_
  refine Wp.aload_n 0 0 d_Law_1145 rfl rfl ?_
  refine Wp.iload_n 3 3 d_Law_1146 rfl rfl ?_
  refine Wp.iconst d_Law_1147 (by decide) ?_
  obtain ⟨s1, H2⟩ := H0
  refine Wp.iadd d_Law_1148 s1 ?_
  obtain ⟨s3, H4⟩ := H2
  refine Wp.sald d_Law_1149 s3.1 s3.2 ?_
  obtain ⟨e5, P6, hd7, ho8, H9⟩ := H4
  refine Wq.VI (st := []) [.inl (g_x G ((x3 + 1)).toNat)] d_Law_1150 k_S_like ml_Law_179 rfl rfl rfl (fun _ => by decide) (Nat.le_of_ble_eq_true rfl) hd7 ho8 (fun z11 m12 hp13 hz14 hw15 => ?_)
  have H10 := H9 z11 m12 hp13 hz14 hw15
  refine Wp.aload_n 2 2 d_Law_1153 rfl rfl ?_
  refine Wp.aload_n 0 0 d_Law_1154 rfl rfl ?_
  refine Wp.iload_n 3 3 d_Law_1155 rfl rfl ?_
  refine Wp.iconst d_Law_1156 (by decide) ?_
  obtain ⟨s16, H17⟩ := H10
  refine Wp.iadd d_Law_1157 s16 ?_
  obtain ⟨s18, H19⟩ := H17
  refine Wp.sald d_Law_1158 s18.1 s18.2 ?_
  obtain ⟨e20, P21, hd22, ho23, H24⟩ := H19
  refine Wq.VI (st := [.inl z11]) [.inl (g_x G ((x3 + 1)).toNat)] d_Law_1159 k_M_like ml_Law_182 rfl rfl rfl (fun _ => by decide) (Nat.le_of_ble_eq_true rfl) hd22 ho23 (fun z26 m27 hp28 hz29 hw30 => ?_)
  have H25 := H24 z26 m27 hp28 hz29 hw30
  obtain ⟨H32, H33⟩ := H25
  refine Wp.icmp_eq 1542 d_Law_1162 (by decide) (fun c31 => ?_) (fun c31 => ?_)
  · have H34 := H32 c31
    exact H34
  · have H35 := H33 c31
    refine Wp.iconst d_Law_1165 (by decide) ?_
    exact H35.elim
theorem s_Law_1167 {l : Launch} {G : GT} {Q : Option MV → MM → Nat → Prop} {m : MM} (x3 : Int) (H : wfM m → inR x3 → (inR (x3 + 1)) ∧ ((0 ≤ (x3 + 1) ∧ (x3 + 1) < (g_L G : Int)) ∧ ((inR (x3 + 2)) ∧ ((0 ≤ (x3 + 2) ∧ (x3 + 2) < (g_L G : Int)) ∧ (∃ (e9 : Nat) (P10 : Int → MM → Prop), e9 < 400 ∧ CI l G Y_S_duel e9 [.inr (.inr 0), .inl (g_x G ((x3 + 1)).toNat), .inl (g_x G ((x3 + 2)).toNat)] m P10 ∧ (∀ z15 m16, P10 z15 m16 → inR z15 → wfM m16 → ((inR (x3 + 1)) ∧ ((0 ≤ (x3 + 1) ∧ (x3 + 1) < (g_L G : Int)) ∧ ((inR (x3 + 2)) ∧ ((0 ≤ (x3 + 2) ∧ (x3 + 2) < (g_L G : Int)) ∧ (∃ (e28 : Nat) (P29 : Int → MM → Prop), e28 < 400 ∧ CI l G Y_M_duel e28 [.inr (.inr 70), .inl (g_x G ((x3 + 1)).toNat), .inl (g_x G ((x3 + 2)).toNat)] m16 P29 ∧ (∀ z34 m35, P29 z34 m35 → inR z34 → wfM m35 → ((z15 = z34 → (Wq l G true Y_Law 400 Q 1542 [(0, .inr (.inr 1000)), (1, .inr (.inr 0)), (2, .inr (.inr 70)), (3, .inl x3)] [] m35)) ∧ (¬ (z15 = z34) → (False))))))))))))))) : Wq l G true Y_Law 400 Q 1167 [(0, .inr (.inr 1000)), (1, .inr (.inr 0)), (2, .inr (.inr 70)), (3, .inl x3)] [] m := by
  refine Wp.wf (fun hw _ hl hs => ?_)
  have H0 := H hw (hl _ (List.mem_of_getElem? (i := 3) rfl))
  refine Wp.aload_n 1 1 d_Law_1167 rfl rfl ?_
  refine Wp.aload_n 0 0 d_Law_1168 rfl rfl ?_
  refine Wp.iload_n 3 3 d_Law_1169 rfl rfl ?_
  refine Wp.iconst d_Law_1170 (by decide) ?_
  obtain ⟨s1, H2⟩ := H0
  refine Wp.iadd d_Law_1171 s1 ?_
  obtain ⟨s3, H4⟩ := H2
  refine Wp.sald d_Law_1172 s3.1 s3.2 ?_
  refine Wp.aload_n 0 0 d_Law_1173 rfl rfl ?_
  refine Wp.iload_n 3 3 d_Law_1174 rfl rfl ?_
  refine Wp.iconst d_Law_1175 (by decide) ?_
  obtain ⟨s5, H6⟩ := H4
  refine Wp.iadd d_Law_1176 s5 ?_
  obtain ⟨s7, H8⟩ := H6
  refine Wp.sald d_Law_1177 s7.1 s7.2 ?_
  obtain ⟨e9, P10, hd11, ho12, H13⟩ := H8
  refine Wq.VI (st := []) [.inl (g_x G ((x3 + 1)).toNat), .inl (g_x G ((x3 + 2)).toNat)] d_Law_1178 k_S_duel ml_Law_183 rfl rfl rfl (fun _ => by decide) (Nat.le_of_ble_eq_true rfl) hd11 ho12 (fun z15 m16 hp17 hz18 hw19 => ?_)
  have H14 := H13 z15 m16 hp17 hz18 hw19
  refine Wp.aload_n 2 2 d_Law_1181 rfl rfl ?_
  refine Wp.aload_n 0 0 d_Law_1182 rfl rfl ?_
  refine Wp.iload_n 3 3 d_Law_1183 rfl rfl ?_
  refine Wp.iconst d_Law_1184 (by decide) ?_
  obtain ⟨s20, H21⟩ := H14
  refine Wp.iadd d_Law_1185 s20 ?_
  obtain ⟨s22, H23⟩ := H21
  refine Wp.sald d_Law_1186 s22.1 s22.2 ?_
  refine Wp.aload_n 0 0 d_Law_1187 rfl rfl ?_
  refine Wp.iload_n 3 3 d_Law_1188 rfl rfl ?_
  refine Wp.iconst d_Law_1189 (by decide) ?_
  obtain ⟨s24, H25⟩ := H23
  refine Wp.iadd d_Law_1190 s24 ?_
  obtain ⟨s26, H27⟩ := H25
  refine Wp.sald d_Law_1191 s26.1 s26.2 ?_
  obtain ⟨e28, P29, hd30, ho31, H32⟩ := H27
  refine Wq.VI (st := [.inl z15]) [.inl (g_x G ((x3 + 1)).toNat), .inl (g_x G ((x3 + 2)).toNat)] d_Law_1192 k_M_duel ml_Law_186 rfl rfl rfl (fun _ => by decide) (Nat.le_of_ble_eq_true rfl) hd30 ho31 (fun z34 m35 hp36 hz37 hw38 => ?_)
  have H33 := H32 z34 m35 hp36 hz37 hw38
  obtain ⟨H40, H41⟩ := H33
  refine Wp.icmp_eq 1542 d_Law_1195 (by decide) (fun c39 => ?_) (fun c39 => ?_)
  · have H42 := H40 c39
    exact H42
  · have H43 := H41 c39
    refine Wp.iconst d_Law_1198 (by decide) ?_
    exact H43.elim
theorem s_Law_1200 {l : Launch} {G : GT} {Q : Option MV → MM → Nat → Prop} {m : MM} (x3 : Int) (H : wfM m → inR x3 → (inR (x3 + 1)) ∧ ((0 ≤ (x3 + 1) ∧ (x3 + 1) < (g_L G : Int)) ∧ (∃ (e5 : Nat) (P6 : Int → MM → Prop), e5 < 400 ∧ CI l G Y_S_law e5 [.inr (.inr 0), .inl (g_x G ((x3 + 1)).toNat)] m P6 ∧ (∀ z11 m12, P6 z11 m12 → inR z11 → wfM m12 → ((inR (x3 + 1)) ∧ ((0 ≤ (x3 + 1) ∧ (x3 + 1) < (g_L G : Int)) ∧ (∃ (e20 : Nat) (P21 : Int → MM → Prop), e20 < 400 ∧ CI l G Y_M_law e20 [.inr (.inr 70), .inl (g_x G ((x3 + 1)).toNat)] m12 P21 ∧ (∀ z26 m27, P21 z26 m27 → inR z26 → wfM m27 → ((z11 = z26 → (Wq l G true Y_Law 400 Q 1542 [(0, .inr (.inr 1000)), (1, .inr (.inr 0)), (2, .inr (.inr 70)), (3, .inl x3)] [] m27)) ∧ (¬ (z11 = z26) → (False))))))))))) : Wq l G true Y_Law 400 Q 1200 [(0, .inr (.inr 1000)), (1, .inr (.inr 0)), (2, .inr (.inr 70)), (3, .inl x3)] [] m := by
  refine Wp.wf (fun hw _ hl hs => ?_)
  have H0 := H hw (hl _ (List.mem_of_getElem? (i := 3) rfl))
  refine Wp.aload_n 1 1 d_Law_1200 rfl rfl ?_
  refine Wp.aload_n 0 0 d_Law_1201 rfl rfl ?_
  refine Wp.iload_n 3 3 d_Law_1202 rfl rfl ?_
  refine Wp.iconst d_Law_1203 (by decide) ?_
  obtain ⟨s1, H2⟩ := H0
  refine Wp.iadd d_Law_1204 s1 ?_
  obtain ⟨s3, H4⟩ := H2
  refine Wp.sald d_Law_1205 s3.1 s3.2 ?_
  obtain ⟨e5, P6, hd7, ho8, H9⟩ := H4
  refine Wq.VI (st := []) [.inl (g_x G ((x3 + 1)).toNat)] d_Law_1206 k_S_law ml_Law_187 rfl rfl rfl (fun _ => by decide) (Nat.le_of_ble_eq_true rfl) hd7 ho8 (fun z11 m12 hp13 hz14 hw15 => ?_)
  have H10 := H9 z11 m12 hp13 hz14 hw15
  refine Wp.aload_n 2 2 d_Law_1209 rfl rfl ?_
  refine Wp.aload_n 0 0 d_Law_1210 rfl rfl ?_
  refine Wp.iload_n 3 3 d_Law_1211 rfl rfl ?_
  refine Wp.iconst d_Law_1212 (by decide) ?_
  obtain ⟨s16, H17⟩ := H10
  refine Wp.iadd d_Law_1213 s16 ?_
  obtain ⟨s18, H19⟩ := H17
  refine Wp.sald d_Law_1214 s18.1 s18.2 ?_
  obtain ⟨e20, P21, hd22, ho23, H24⟩ := H19
  refine Wq.VI (st := [.inl z11]) [.inl (g_x G ((x3 + 1)).toNat)] d_Law_1215 k_M_law ml_Law_190 rfl rfl rfl (fun _ => by decide) (Nat.le_of_ble_eq_true rfl) hd22 ho23 (fun z26 m27 hp28 hz29 hw30 => ?_)
  have H25 := H24 z26 m27 hp28 hz29 hw30
  obtain ⟨H32, H33⟩ := H25
  refine Wp.icmp_eq 1542 d_Law_1218 (by decide) (fun c31 => ?_) (fun c31 => ?_)
  · have H34 := H32 c31
    exact H34
  · have H35 := H33 c31
    refine Wp.iconst d_Law_1221 (by decide) ?_
    exact H35.elim
theorem s_Law_1223 {l : Launch} {G : GT} {Q : Option MV → MM → Nat → Prop} {m : MM} (x3 : Int) (H : wfM m → inR x3 → (inR (x3 + 1)) ∧ ((0 ≤ (x3 + 1) ∧ (x3 + 1) < (g_L G : Int)) ∧ ((inR (x3 + 2)) ∧ ((0 ≤ (x3 + 2) ∧ (x3 + 2) < (g_L G : Int)) ∧ (∃ (e9 : Nat) (P10 : Int → MM → Prop), e9 < 400 ∧ CI l G Y_S_odds e9 [.inr (.inr 0), .inl (g_x G ((x3 + 1)).toNat), .inl (g_x G ((x3 + 2)).toNat)] m P10 ∧ (∀ z15 m16, P10 z15 m16 → inR z15 → wfM m16 → ((inR (x3 + 1)) ∧ ((0 ≤ (x3 + 1) ∧ (x3 + 1) < (g_L G : Int)) ∧ ((inR (x3 + 2)) ∧ ((0 ≤ (x3 + 2) ∧ (x3 + 2) < (g_L G : Int)) ∧ (∃ (e28 : Nat) (P29 : Int → MM → Prop), e28 < 400 ∧ CI l G Y_M_odds e28 [.inr (.inr 70), .inl (g_x G ((x3 + 1)).toNat), .inl (g_x G ((x3 + 2)).toNat)] m16 P29 ∧ (∀ z34 m35, P29 z34 m35 → inR z34 → wfM m35 → ((z15 = z34 → (Wq l G true Y_Law 400 Q 1542 [(0, .inr (.inr 1000)), (1, .inr (.inr 0)), (2, .inr (.inr 70)), (3, .inl x3)] [] m35)) ∧ (¬ (z15 = z34) → (False))))))))))))))) : Wq l G true Y_Law 400 Q 1223 [(0, .inr (.inr 1000)), (1, .inr (.inr 0)), (2, .inr (.inr 70)), (3, .inl x3)] [] m := by
  refine Wp.wf (fun hw _ hl hs => ?_)
  have H0 := H hw (hl _ (List.mem_of_getElem? (i := 3) rfl))
  refine Wp.aload_n 1 1 d_Law_1223 rfl rfl ?_
  refine Wp.aload_n 0 0 d_Law_1224 rfl rfl ?_
  refine Wp.iload_n 3 3 d_Law_1225 rfl rfl ?_
  refine Wp.iconst d_Law_1226 (by decide) ?_
  obtain ⟨s1, H2⟩ := H0
  refine Wp.iadd d_Law_1227 s1 ?_
  obtain ⟨s3, H4⟩ := H2
  refine Wp.sald d_Law_1228 s3.1 s3.2 ?_
  refine Wp.aload_n 0 0 d_Law_1229 rfl rfl ?_
  refine Wp.iload_n 3 3 d_Law_1230 rfl rfl ?_
  refine Wp.iconst d_Law_1231 (by decide) ?_
  obtain ⟨s5, H6⟩ := H4
  refine Wp.iadd d_Law_1232 s5 ?_
  obtain ⟨s7, H8⟩ := H6
  refine Wp.sald d_Law_1233 s7.1 s7.2 ?_
  obtain ⟨e9, P10, hd11, ho12, H13⟩ := H8
  refine Wq.VI (st := []) [.inl (g_x G ((x3 + 1)).toNat), .inl (g_x G ((x3 + 2)).toNat)] d_Law_1234 k_S_odds ml_Law_191 rfl rfl rfl (fun _ => by decide) (Nat.le_of_ble_eq_true rfl) hd11 ho12 (fun z15 m16 hp17 hz18 hw19 => ?_)
  have H14 := H13 z15 m16 hp17 hz18 hw19
  refine Wp.aload_n 2 2 d_Law_1237 rfl rfl ?_
  refine Wp.aload_n 0 0 d_Law_1238 rfl rfl ?_
  refine Wp.iload_n 3 3 d_Law_1239 rfl rfl ?_
  refine Wp.iconst d_Law_1240 (by decide) ?_
  obtain ⟨s20, H21⟩ := H14
  refine Wp.iadd d_Law_1241 s20 ?_
  obtain ⟨s22, H23⟩ := H21
  refine Wp.sald d_Law_1242 s22.1 s22.2 ?_
  refine Wp.aload_n 0 0 d_Law_1243 rfl rfl ?_
  refine Wp.iload_n 3 3 d_Law_1244 rfl rfl ?_
  refine Wp.iconst d_Law_1245 (by decide) ?_
  obtain ⟨s24, H25⟩ := H23
  refine Wp.iadd d_Law_1246 s24 ?_
  obtain ⟨s26, H27⟩ := H25
  refine Wp.sald d_Law_1247 s26.1 s26.2 ?_
  obtain ⟨e28, P29, hd30, ho31, H32⟩ := H27
  refine Wq.VI (st := [.inl z15]) [.inl (g_x G ((x3 + 1)).toNat), .inl (g_x G ((x3 + 2)).toNat)] d_Law_1248 k_M_odds ml_Law_194 rfl rfl rfl (fun _ => by decide) (Nat.le_of_ble_eq_true rfl) hd30 ho31 (fun z34 m35 hp36 hz37 hw38 => ?_)
  have H33 := H32 z34 m35 hp36 hz37 hw38
  obtain ⟨H40, H41⟩ := H33
  refine Wp.icmp_eq 1542 d_Law_1251 (by decide) (fun c39 => ?_) (fun c39 => ?_)
  · have H42 := H40 c39
    exact H42
  · have H43 := H41 c39
    refine Wp.iconst d_Law_1254 (by decide) ?_
    exact H43.elim
theorem s_Law_1256 {l : Launch} {G : GT} {Q : Option MV → MM → Nat → Prop} {m : MM} (x3 : Int) (H : wfM m → inR x3 → (inR (x3 + 1)) ∧ ((0 ≤ (x3 + 1) ∧ (x3 + 1) < (g_L G : Int)) ∧ (∃ (e5 : Nat) (P6 : Int → MM → Prop), e5 < 400 ∧ CI l G Y_S_lies e5 [.inr (.inr 0), .inl (g_x G ((x3 + 1)).toNat)] m P6 ∧ (∀ z11 m12, P6 z11 m12 → inR z11 → wfM m12 → ((inR (x3 + 1)) ∧ ((0 ≤ (x3 + 1) ∧ (x3 + 1) < (g_L G : Int)) ∧ (∃ (e20 : Nat) (P21 : Int → MM → Prop), e20 < 400 ∧ CI l G Y_M_lies e20 [.inr (.inr 70), .inl (g_x G ((x3 + 1)).toNat)] m12 P21 ∧ (∀ z26 m27, P21 z26 m27 → inR z26 → wfM m27 → ((z11 = z26 → (Wq l G true Y_Law 400 Q 1542 [(0, .inr (.inr 1000)), (1, .inr (.inr 0)), (2, .inr (.inr 70)), (3, .inl x3)] [] m27)) ∧ (¬ (z11 = z26) → (False))))))))))) : Wq l G true Y_Law 400 Q 1256 [(0, .inr (.inr 1000)), (1, .inr (.inr 0)), (2, .inr (.inr 70)), (3, .inl x3)] [] m := by
  refine Wp.wf (fun hw _ hl hs => ?_)
  have H0 := H hw (hl _ (List.mem_of_getElem? (i := 3) rfl))
  refine Wp.aload_n 1 1 d_Law_1256 rfl rfl ?_
  refine Wp.aload_n 0 0 d_Law_1257 rfl rfl ?_
  refine Wp.iload_n 3 3 d_Law_1258 rfl rfl ?_
  refine Wp.iconst d_Law_1259 (by decide) ?_
  obtain ⟨s1, H2⟩ := H0
  refine Wp.iadd d_Law_1260 s1 ?_
  obtain ⟨s3, H4⟩ := H2
  refine Wp.sald d_Law_1261 s3.1 s3.2 ?_
  obtain ⟨e5, P6, hd7, ho8, H9⟩ := H4
  refine Wq.VI (st := []) [.inl (g_x G ((x3 + 1)).toNat)] d_Law_1262 k_S_lies ml_Law_195 rfl rfl rfl (fun _ => by decide) (Nat.le_of_ble_eq_true rfl) hd7 ho8 (fun z11 m12 hp13 hz14 hw15 => ?_)
  have H10 := H9 z11 m12 hp13 hz14 hw15
  refine Wp.aload_n 2 2 d_Law_1265 rfl rfl ?_
  refine Wp.aload_n 0 0 d_Law_1266 rfl rfl ?_
  refine Wp.iload_n 3 3 d_Law_1267 rfl rfl ?_
  refine Wp.iconst d_Law_1268 (by decide) ?_
  obtain ⟨s16, H17⟩ := H10
  refine Wp.iadd d_Law_1269 s16 ?_
  obtain ⟨s18, H19⟩ := H17
  refine Wp.sald d_Law_1270 s18.1 s18.2 ?_
  obtain ⟨e20, P21, hd22, ho23, H24⟩ := H19
  refine Wq.VI (st := [.inl z11]) [.inl (g_x G ((x3 + 1)).toNat)] d_Law_1271 k_M_lies ml_Law_198 rfl rfl rfl (fun _ => by decide) (Nat.le_of_ble_eq_true rfl) hd22 ho23 (fun z26 m27 hp28 hz29 hw30 => ?_)
  have H25 := H24 z26 m27 hp28 hz29 hw30
  obtain ⟨H32, H33⟩ := H25
  refine Wp.icmp_eq 1542 d_Law_1274 (by decide) (fun c31 => ?_) (fun c31 => ?_)
  · have H34 := H32 c31
    exact H34
  · have H35 := H33 c31
    refine Wp.iconst d_Law_1277 (by decide) ?_
    exact H35.elim
theorem s_Law_1279 {l : Launch} {G : GT} {Q : Option MV → MM → Nat → Prop} {m : MM} (x3 : Int) (H : wfM m → inR x3 → (inR (x3 + 1)) ∧ ((0 ≤ (x3 + 1) ∧ (x3 + 1) < (g_L G : Int)) ∧ ((inR (x3 + 2)) ∧ ((0 ≤ (x3 + 2) ∧ (x3 + 2) < (g_L G : Int)) ∧ ((inR (x3 + 3)) ∧ ((0 ≤ (x3 + 3) ∧ (x3 + 3) < (g_L G : Int)) ∧ (((g_x G ((x3 + 3)).toNat) = 0 → (∃ (e18 : Nat) (P19 : Int → MM → Prop), e18 < 400 ∧ CI l G Y_S_seen e18 [.inr (.inr 0), .inl (g_x G ((x3 + 1)).toNat), .inl (g_x G ((x3 + 2)).toNat), .inl 0] m P19 ∧ (∀ z24 m25, P19 z24 m25 → inR z24 → wfM m25 → ((inR (x3 + 1)) ∧ ((0 ≤ (x3 + 1) ∧ (x3 + 1) < (g_L G : Int)) ∧ ((inR (x3 + 2)) ∧ ((0 ≤ (x3 + 2) ∧ (x3 + 2) < (g_L G : Int)) ∧ ((inR (x3 + 3)) ∧ ((0 ≤ (x3 + 3) ∧ (x3 + 3) < (g_L G : Int)) ∧ (((g_x G ((x3 + 3)).toNat) = 0 → (∃ (e46 : Nat) (P47 : Int → MM → Prop), e46 < 400 ∧ CI l G Y_M_seen e46 [.inr (.inr 70), .inl (g_x G ((x3 + 1)).toNat), .inl (g_x G ((x3 + 2)).toNat), .inl 0] m25 P47 ∧ (∀ z52 m53, P47 z52 m53 → inR z52 → wfM m53 → ((z24 = z52 → (Wq l G true Y_Law 400 Q 1542 [(0, .inr (.inr 1000)), (1, .inr (.inr 0)), (2, .inr (.inr 70)), (3, .inl x3)] [] m53)) ∧ (¬ (z24 = z52) → (False)))))) ∧ (¬ ((g_x G ((x3 + 3)).toNat) = 0) → (∃ (e62 : Nat) (P63 : Int → MM → Prop), e62 < 400 ∧ CI l G Y_M_seen e62 [.inr (.inr 70), .inl (g_x G ((x3 + 1)).toNat), .inl (g_x G ((x3 + 2)).toNat), .inl 1] m25 P63 ∧ (∀ z68 m69, P63 z68 m69 → inR z68 → wfM m69 → ((z24 = z68 → (Wq l G true Y_Law 400 Q 1542 [(0, .inr (.inr 1000)), (1, .inr (.inr 0)), (2, .inr (.inr 70)), (3, .inl x3)] [] m69)) ∧ (¬ (z24 = z68) → (False)))))))))))))))) ∧ (¬ ((g_x G ((x3 + 3)).toNat) = 0) → (∃ (e78 : Nat) (P79 : Int → MM → Prop), e78 < 400 ∧ CI l G Y_S_seen e78 [.inr (.inr 0), .inl (g_x G ((x3 + 1)).toNat), .inl (g_x G ((x3 + 2)).toNat), .inl 1] m P79 ∧ (∀ z84 m85, P79 z84 m85 → inR z84 → wfM m85 → ((inR (x3 + 1)) ∧ ((0 ≤ (x3 + 1) ∧ (x3 + 1) < (g_L G : Int)) ∧ ((inR (x3 + 2)) ∧ ((0 ≤ (x3 + 2) ∧ (x3 + 2) < (g_L G : Int)) ∧ ((inR (x3 + 3)) ∧ ((0 ≤ (x3 + 3) ∧ (x3 + 3) < (g_L G : Int)) ∧ (((g_x G ((x3 + 3)).toNat) = 0 → (∃ (e106 : Nat) (P107 : Int → MM → Prop), e106 < 400 ∧ CI l G Y_M_seen e106 [.inr (.inr 70), .inl (g_x G ((x3 + 1)).toNat), .inl (g_x G ((x3 + 2)).toNat), .inl 0] m85 P107 ∧ (∀ z112 m113, P107 z112 m113 → inR z112 → wfM m113 → ((z84 = z112 → (Wq l G true Y_Law 400 Q 1542 [(0, .inr (.inr 1000)), (1, .inr (.inr 0)), (2, .inr (.inr 70)), (3, .inl x3)] [] m113)) ∧ (¬ (z84 = z112) → (False)))))) ∧ (¬ ((g_x G ((x3 + 3)).toNat) = 0) → (∃ (e122 : Nat) (P123 : Int → MM → Prop), e122 < 400 ∧ CI l G Y_M_seen e122 [.inr (.inr 70), .inl (g_x G ((x3 + 1)).toNat), .inl (g_x G ((x3 + 2)).toNat), .inl 1] m85 P123 ∧ (∀ z128 m129, P123 z128 m129 → inR z128 → wfM m129 → ((z84 = z128 → (Wq l G true Y_Law 400 Q 1542 [(0, .inr (.inr 1000)), (1, .inr (.inr 0)), (2, .inr (.inr 70)), (3, .inl x3)] [] m129)) ∧ (¬ (z84 = z128) → (False))))))))))))))))))))))) : Wq l G true Y_Law 400 Q 1279 [(0, .inr (.inr 1000)), (1, .inr (.inr 0)), (2, .inr (.inr 70)), (3, .inl x3)] [] m := by
  refine Wp.wf (fun hw _ hl hs => ?_)
  have H0 := H hw (hl _ (List.mem_of_getElem? (i := 3) rfl))
  refine Wp.aload_n 1 1 d_Law_1279 rfl rfl ?_
  refine Wp.aload_n 0 0 d_Law_1280 rfl rfl ?_
  refine Wp.iload_n 3 3 d_Law_1281 rfl rfl ?_
  refine Wp.iconst d_Law_1282 (by decide) ?_
  obtain ⟨s1, H2⟩ := H0
  refine Wp.iadd d_Law_1283 s1 ?_
  obtain ⟨s3, H4⟩ := H2
  refine Wp.sald d_Law_1284 s3.1 s3.2 ?_
  refine Wp.aload_n 0 0 d_Law_1285 rfl rfl ?_
  refine Wp.iload_n 3 3 d_Law_1286 rfl rfl ?_
  refine Wp.iconst d_Law_1287 (by decide) ?_
  obtain ⟨s5, H6⟩ := H4
  refine Wp.iadd d_Law_1288 s5 ?_
  obtain ⟨s7, H8⟩ := H6
  refine Wp.sald d_Law_1289 s7.1 s7.2 ?_
  refine Wp.aload_n 0 0 d_Law_1290 rfl rfl ?_
  refine Wp.iload_n 3 3 d_Law_1291 rfl rfl ?_
  refine Wp.iconst d_Law_1292 (by decide) ?_
  obtain ⟨s9, H10⟩ := H8
  refine Wp.iadd d_Law_1293 s9 ?_
  obtain ⟨s11, H12⟩ := H10
  refine Wp.sald d_Law_1294 s11.1 s11.2 ?_
  obtain ⟨H14, H15⟩ := H12
  refine Wp.if_eq 1302 d_Law_1295 (by decide) (fun c13 => ?_) (fun c13 => ?_)
  · have H16 := H14 c13
    refine Wp.iconst d_Law_1302 (by decide) ?_
    obtain ⟨e18, P19, hd20, ho21, H22⟩ := H16
    refine Wq.VI (st := []) [.inl (g_x G ((x3 + 1)).toNat), .inl (g_x G ((x3 + 2)).toNat), .inl 0] d_Law_1303 k_S_seen ml_Law_199 rfl rfl rfl (fun _ => by decide) (Nat.le_of_ble_eq_true rfl) hd20 ho21 (fun z24 m25 hp26 hz27 hw28 => ?_)
    have H23 := H22 z24 m25 hp26 hz27 hw28
    refine Wp.aload_n 2 2 d_Law_1306 rfl rfl ?_
    refine Wp.aload_n 0 0 d_Law_1307 rfl rfl ?_
    refine Wp.iload_n 3 3 d_Law_1308 rfl rfl ?_
    refine Wp.iconst d_Law_1309 (by decide) ?_
    obtain ⟨s29, H30⟩ := H23
    refine Wp.iadd d_Law_1310 s29 ?_
    obtain ⟨s31, H32⟩ := H30
    refine Wp.sald d_Law_1311 s31.1 s31.2 ?_
    refine Wp.aload_n 0 0 d_Law_1312 rfl rfl ?_
    refine Wp.iload_n 3 3 d_Law_1313 rfl rfl ?_
    refine Wp.iconst d_Law_1314 (by decide) ?_
    obtain ⟨s33, H34⟩ := H32
    refine Wp.iadd d_Law_1315 s33 ?_
    obtain ⟨s35, H36⟩ := H34
    refine Wp.sald d_Law_1316 s35.1 s35.2 ?_
    refine Wp.aload_n 0 0 d_Law_1317 rfl rfl ?_
    refine Wp.iload_n 3 3 d_Law_1318 rfl rfl ?_
    refine Wp.iconst d_Law_1319 (by decide) ?_
    obtain ⟨s37, H38⟩ := H36
    refine Wp.iadd d_Law_1320 s37 ?_
    obtain ⟨s39, H40⟩ := H38
    refine Wp.sald d_Law_1321 s39.1 s39.2 ?_
    obtain ⟨H42, H43⟩ := H40
    refine Wp.if_eq 1329 d_Law_1322 (by decide) (fun c41 => ?_) (fun c41 => ?_)
    · have H44 := H42 c41
      refine Wp.iconst d_Law_1329 (by decide) ?_
      obtain ⟨e46, P47, hd48, ho49, H50⟩ := H44
      refine Wq.VI (st := [.inl z24]) [.inl (g_x G ((x3 + 1)).toNat), .inl (g_x G ((x3 + 2)).toNat), .inl 0] d_Law_1330 k_M_seen ml_Law_203 rfl rfl rfl (fun _ => by decide) (Nat.le_of_ble_eq_true rfl) hd48 ho49 (fun z52 m53 hp54 hz55 hw56 => ?_)
      have H51 := H50 z52 m53 hp54 hz55 hw56
      obtain ⟨H58, H59⟩ := H51
      refine Wp.icmp_eq 1542 d_Law_1333 (by decide) (fun c57 => ?_) (fun c57 => ?_)
      · have H60 := H58 c57
        exact H60
      · have H61 := H59 c57
        refine Wp.iconst d_Law_1336 (by decide) ?_
        exact H61.elim
    · have H45 := H43 c41
      refine Wp.iconst d_Law_1325 (by decide) ?_
      refine Wp.goto 1330 d_Law_1326 (by decide) ?_
      obtain ⟨e62, P63, hd64, ho65, H66⟩ := H45
      refine Wq.VI (st := [.inl z24]) [.inl (g_x G ((x3 + 1)).toNat), .inl (g_x G ((x3 + 2)).toNat), .inl 1] d_Law_1330 k_M_seen ml_Law_203 rfl rfl rfl (fun _ => by decide) (Nat.le_of_ble_eq_true rfl) hd64 ho65 (fun z68 m69 hp70 hz71 hw72 => ?_)
      have H67 := H66 z68 m69 hp70 hz71 hw72
      obtain ⟨H74, H75⟩ := H67
      refine Wp.icmp_eq 1542 d_Law_1333 (by decide) (fun c73 => ?_) (fun c73 => ?_)
      · have H76 := H74 c73
        exact H76
      · have H77 := H75 c73
        refine Wp.iconst d_Law_1336 (by decide) ?_
        exact H77.elim
  · have H17 := H15 c13
    refine Wp.iconst d_Law_1298 (by decide) ?_
    refine Wp.goto 1303 d_Law_1299 (by decide) ?_
    obtain ⟨e78, P79, hd80, ho81, H82⟩ := H17
    refine Wq.VI (st := []) [.inl (g_x G ((x3 + 1)).toNat), .inl (g_x G ((x3 + 2)).toNat), .inl 1] d_Law_1303 k_S_seen ml_Law_199 rfl rfl rfl (fun _ => by decide) (Nat.le_of_ble_eq_true rfl) hd80 ho81 (fun z84 m85 hp86 hz87 hw88 => ?_)
    have H83 := H82 z84 m85 hp86 hz87 hw88
    refine Wp.aload_n 2 2 d_Law_1306 rfl rfl ?_
    refine Wp.aload_n 0 0 d_Law_1307 rfl rfl ?_
    refine Wp.iload_n 3 3 d_Law_1308 rfl rfl ?_
    refine Wp.iconst d_Law_1309 (by decide) ?_
    obtain ⟨s89, H90⟩ := H83
    refine Wp.iadd d_Law_1310 s89 ?_
    obtain ⟨s91, H92⟩ := H90
    refine Wp.sald d_Law_1311 s91.1 s91.2 ?_
    refine Wp.aload_n 0 0 d_Law_1312 rfl rfl ?_
    refine Wp.iload_n 3 3 d_Law_1313 rfl rfl ?_
    refine Wp.iconst d_Law_1314 (by decide) ?_
    obtain ⟨s93, H94⟩ := H92
    refine Wp.iadd d_Law_1315 s93 ?_
    obtain ⟨s95, H96⟩ := H94
    refine Wp.sald d_Law_1316 s95.1 s95.2 ?_
    refine Wp.aload_n 0 0 d_Law_1317 rfl rfl ?_
    refine Wp.iload_n 3 3 d_Law_1318 rfl rfl ?_
    refine Wp.iconst d_Law_1319 (by decide) ?_
    obtain ⟨s97, H98⟩ := H96
    refine Wp.iadd d_Law_1320 s97 ?_
    obtain ⟨s99, H100⟩ := H98
    refine Wp.sald d_Law_1321 s99.1 s99.2 ?_
    obtain ⟨H102, H103⟩ := H100
    refine Wp.if_eq 1329 d_Law_1322 (by decide) (fun c101 => ?_) (fun c101 => ?_)
    · have H104 := H102 c101
      refine Wp.iconst d_Law_1329 (by decide) ?_
      obtain ⟨e106, P107, hd108, ho109, H110⟩ := H104
      refine Wq.VI (st := [.inl z84]) [.inl (g_x G ((x3 + 1)).toNat), .inl (g_x G ((x3 + 2)).toNat), .inl 0] d_Law_1330 k_M_seen ml_Law_203 rfl rfl rfl (fun _ => by decide) (Nat.le_of_ble_eq_true rfl) hd108 ho109 (fun z112 m113 hp114 hz115 hw116 => ?_)
      have H111 := H110 z112 m113 hp114 hz115 hw116
      obtain ⟨H118, H119⟩ := H111
      refine Wp.icmp_eq 1542 d_Law_1333 (by decide) (fun c117 => ?_) (fun c117 => ?_)
      · have H120 := H118 c117
        exact H120
      · have H121 := H119 c117
        refine Wp.iconst d_Law_1336 (by decide) ?_
        exact H121.elim
    · have H105 := H103 c101
      refine Wp.iconst d_Law_1325 (by decide) ?_
      refine Wp.goto 1330 d_Law_1326 (by decide) ?_
      obtain ⟨e122, P123, hd124, ho125, H126⟩ := H105
      refine Wq.VI (st := [.inl z84]) [.inl (g_x G ((x3 + 1)).toNat), .inl (g_x G ((x3 + 2)).toNat), .inl 1] d_Law_1330 k_M_seen ml_Law_203 rfl rfl rfl (fun _ => by decide) (Nat.le_of_ble_eq_true rfl) hd124 ho125 (fun z128 m129 hp130 hz131 hw132 => ?_)
      have H127 := H126 z128 m129 hp130 hz131 hw132
      obtain ⟨H134, H135⟩ := H127
      refine Wp.icmp_eq 1542 d_Law_1333 (by decide) (fun c133 => ?_) (fun c133 => ?_)
      · have H136 := H134 c133
        exact H136
      · have H137 := H135 c133
        refine Wp.iconst d_Law_1336 (by decide) ?_
        exact H137.elim
theorem s_Law_1338 {l : Launch} {G : GT} {Q : Option MV → MM → Nat → Prop} {m : MM} (x3 : Int) (H : wfM m → inR x3 → (inR (x3 + 1)) ∧ ((0 ≤ (x3 + 1) ∧ (x3 + 1) < (g_L G : Int)) ∧ (∃ (e5 : Nat) (P6 : Int → MM → Prop), e5 < 400 ∧ CI l G Y_S_untell e5 [.inr (.inr 0), .inl (g_x G ((x3 + 1)).toNat)] m P6 ∧ (∀ z11 m12, P6 z11 m12 → inR z11 → wfM m12 → ((inR (x3 + 1)) ∧ ((0 ≤ (x3 + 1) ∧ (x3 + 1) < (g_L G : Int)) ∧ (∃ (e20 : Nat) (P21 : Int → MM → Prop), e20 < 400 ∧ CI l G Y_M_untell e20 [.inr (.inr 70), .inl (g_x G ((x3 + 1)).toNat)] m12 P21 ∧ (∀ z26 m27, P21 z26 m27 → inR z26 → wfM m27 → ((z11 = z26 → (Wq l G true Y_Law 400 Q 1542 [(0, .inr (.inr 1000)), (1, .inr (.inr 0)), (2, .inr (.inr 70)), (3, .inl x3)] [] m27)) ∧ (¬ (z11 = z26) → (False))))))))))) : Wq l G true Y_Law 400 Q 1338 [(0, .inr (.inr 1000)), (1, .inr (.inr 0)), (2, .inr (.inr 70)), (3, .inl x3)] [] m := by
  refine Wp.wf (fun hw _ hl hs => ?_)
  have H0 := H hw (hl _ (List.mem_of_getElem? (i := 3) rfl))
  refine Wp.aload_n 1 1 d_Law_1338 rfl rfl ?_
  refine Wp.aload_n 0 0 d_Law_1339 rfl rfl ?_
  refine Wp.iload_n 3 3 d_Law_1340 rfl rfl ?_
  refine Wp.iconst d_Law_1341 (by decide) ?_
  obtain ⟨s1, H2⟩ := H0
  refine Wp.iadd d_Law_1342 s1 ?_
  obtain ⟨s3, H4⟩ := H2
  refine Wp.sald d_Law_1343 s3.1 s3.2 ?_
  obtain ⟨e5, P6, hd7, ho8, H9⟩ := H4
  refine Wq.VI (st := []) [.inl (g_x G ((x3 + 1)).toNat)] d_Law_1344 k_S_untell ml_Law_204 rfl rfl rfl (fun _ => by decide) (Nat.le_of_ble_eq_true rfl) hd7 ho8 (fun z11 m12 hp13 hz14 hw15 => ?_)
  have H10 := H9 z11 m12 hp13 hz14 hw15
  refine Wp.aload_n 2 2 d_Law_1347 rfl rfl ?_
  refine Wp.aload_n 0 0 d_Law_1348 rfl rfl ?_
  refine Wp.iload_n 3 3 d_Law_1349 rfl rfl ?_
  refine Wp.iconst d_Law_1350 (by decide) ?_
  obtain ⟨s16, H17⟩ := H10
  refine Wp.iadd d_Law_1351 s16 ?_
  obtain ⟨s18, H19⟩ := H17
  refine Wp.sald d_Law_1352 s18.1 s18.2 ?_
  obtain ⟨e20, P21, hd22, ho23, H24⟩ := H19
  refine Wq.VI (st := [.inl z11]) [.inl (g_x G ((x3 + 1)).toNat)] d_Law_1353 k_M_untell ml_Law_208 rfl rfl rfl (fun _ => by decide) (Nat.le_of_ble_eq_true rfl) hd22 ho23 (fun z26 m27 hp28 hz29 hw30 => ?_)
  have H25 := H24 z26 m27 hp28 hz29 hw30
  obtain ⟨H32, H33⟩ := H25
  refine Wp.icmp_eq 1542 d_Law_1356 (by decide) (fun c31 => ?_) (fun c31 => ?_)
  · have H34 := H32 c31
    exact H34
  · have H35 := H33 c31
    refine Wp.iconst d_Law_1359 (by decide) ?_
    exact H35.elim
theorem s_Law_1361 {l : Launch} {G : GT} {Q : Option MV → MM → Nat → Prop} {m : MM} (x3 : Int) (H : wfM m → inR x3 → (inR (x3 + 1)) ∧ ((0 ≤ (x3 + 1) ∧ (x3 + 1) < (g_L G : Int)) ∧ (∃ (e5 : Nat) (P6 : Int → MM → Prop), e5 < 400 ∧ CI l G Y_S_later e5 [.inr (.inr 0), .inl (g_x G ((x3 + 1)).toNat)] m P6 ∧ (∀ z11 m12, P6 z11 m12 → inR z11 → wfM m12 → ((inR (x3 + 1)) ∧ ((0 ≤ (x3 + 1) ∧ (x3 + 1) < (g_L G : Int)) ∧ (∃ (e20 : Nat) (P21 : Int → MM → Prop), e20 < 400 ∧ CI l G Y_M_later e20 [.inr (.inr 70), .inl (g_x G ((x3 + 1)).toNat)] m12 P21 ∧ (∀ z26 m27, P21 z26 m27 → inR z26 → wfM m27 → ((z11 = z26 → (Wq l G true Y_Law 400 Q 1542 [(0, .inr (.inr 1000)), (1, .inr (.inr 0)), (2, .inr (.inr 70)), (3, .inl x3)] [] m27)) ∧ (¬ (z11 = z26) → (False))))))))))) : Wq l G true Y_Law 400 Q 1361 [(0, .inr (.inr 1000)), (1, .inr (.inr 0)), (2, .inr (.inr 70)), (3, .inl x3)] [] m := by
  refine Wp.wf (fun hw _ hl hs => ?_)
  have H0 := H hw (hl _ (List.mem_of_getElem? (i := 3) rfl))
  refine Wp.aload_n 1 1 d_Law_1361 rfl rfl ?_
  refine Wp.aload_n 0 0 d_Law_1362 rfl rfl ?_
  refine Wp.iload_n 3 3 d_Law_1363 rfl rfl ?_
  refine Wp.iconst d_Law_1364 (by decide) ?_
  obtain ⟨s1, H2⟩ := H0
  refine Wp.iadd d_Law_1365 s1 ?_
  obtain ⟨s3, H4⟩ := H2
  refine Wp.sald d_Law_1366 s3.1 s3.2 ?_
  obtain ⟨e5, P6, hd7, ho8, H9⟩ := H4
  refine Wq.VI (st := []) [.inl (g_x G ((x3 + 1)).toNat)] d_Law_1367 k_S_later ml_Law_209 rfl rfl rfl (fun _ => by decide) (Nat.le_of_ble_eq_true rfl) hd7 ho8 (fun z11 m12 hp13 hz14 hw15 => ?_)
  have H10 := H9 z11 m12 hp13 hz14 hw15
  refine Wp.aload_n 2 2 d_Law_1370 rfl rfl ?_
  refine Wp.aload_n 0 0 d_Law_1371 rfl rfl ?_
  refine Wp.iload_n 3 3 d_Law_1372 rfl rfl ?_
  refine Wp.iconst d_Law_1373 (by decide) ?_
  obtain ⟨s16, H17⟩ := H10
  refine Wp.iadd d_Law_1374 s16 ?_
  obtain ⟨s18, H19⟩ := H17
  refine Wp.sald d_Law_1375 s18.1 s18.2 ?_
  obtain ⟨e20, P21, hd22, ho23, H24⟩ := H19
  refine Wq.VI (st := [.inl z11]) [.inl (g_x G ((x3 + 1)).toNat)] d_Law_1376 k_M_later ml_Law_212 rfl rfl rfl (fun _ => by decide) (Nat.le_of_ble_eq_true rfl) hd22 ho23 (fun z26 m27 hp28 hz29 hw30 => ?_)
  have H25 := H24 z26 m27 hp28 hz29 hw30
  obtain ⟨H32, H33⟩ := H25
  refine Wp.icmp_eq 1542 d_Law_1379 (by decide) (fun c31 => ?_) (fun c31 => ?_)
  · have H34 := H32 c31
    exact H34
  · have H35 := H33 c31
    refine Wp.iconst d_Law_1382 (by decide) ?_
    exact H35.elim
theorem s_Law_1384 {l : Launch} {G : GT} {Q : Option MV → MM → Nat → Prop} {m : MM} (x3 : Int) (H : wfM m → inR x3 → (inR (x3 + 1)) ∧ ((0 ≤ (x3 + 1) ∧ (x3 + 1) < (g_L G : Int)) ∧ (∃ (e5 : Nat) (P6 : Int → MM → Prop), e5 < 400 ∧ CI l G Y_S_fits e5 [.inr (.inr 0), .inl (g_x G ((x3 + 1)).toNat)] m P6 ∧ (∀ z11 m12, P6 z11 m12 → inR z11 → wfM m12 → ((inR (x3 + 1)) ∧ ((0 ≤ (x3 + 1) ∧ (x3 + 1) < (g_L G : Int)) ∧ (∃ (e20 : Nat) (P21 : Int → MM → Prop), e20 < 400 ∧ CI l G Y_M_fits e20 [.inr (.inr 70), .inl (g_x G ((x3 + 1)).toNat)] m12 P21 ∧ (∀ z26 m27, P21 z26 m27 → inR z26 → wfM m27 → ((z11 = z26 → (Wq l G true Y_Law 400 Q 1542 [(0, .inr (.inr 1000)), (1, .inr (.inr 0)), (2, .inr (.inr 70)), (3, .inl x3)] [] m27)) ∧ (¬ (z11 = z26) → (False))))))))))) : Wq l G true Y_Law 400 Q 1384 [(0, .inr (.inr 1000)), (1, .inr (.inr 0)), (2, .inr (.inr 70)), (3, .inl x3)] [] m := by
  refine Wp.wf (fun hw _ hl hs => ?_)
  have H0 := H hw (hl _ (List.mem_of_getElem? (i := 3) rfl))
  refine Wp.aload_n 1 1 d_Law_1384 rfl rfl ?_
  refine Wp.aload_n 0 0 d_Law_1385 rfl rfl ?_
  refine Wp.iload_n 3 3 d_Law_1386 rfl rfl ?_
  refine Wp.iconst d_Law_1387 (by decide) ?_
  obtain ⟨s1, H2⟩ := H0
  refine Wp.iadd d_Law_1388 s1 ?_
  obtain ⟨s3, H4⟩ := H2
  refine Wp.sald d_Law_1389 s3.1 s3.2 ?_
  obtain ⟨e5, P6, hd7, ho8, H9⟩ := H4
  refine Wq.VI (st := []) [.inl (g_x G ((x3 + 1)).toNat)] d_Law_1390 k_S_fits ml_Law_213 rfl rfl rfl (fun _ => by decide) (Nat.le_of_ble_eq_true rfl) hd7 ho8 (fun z11 m12 hp13 hz14 hw15 => ?_)
  have H10 := H9 z11 m12 hp13 hz14 hw15
  refine Wp.aload_n 2 2 d_Law_1393 rfl rfl ?_
  refine Wp.aload_n 0 0 d_Law_1394 rfl rfl ?_
  refine Wp.iload_n 3 3 d_Law_1395 rfl rfl ?_
  refine Wp.iconst d_Law_1396 (by decide) ?_
  obtain ⟨s16, H17⟩ := H10
  refine Wp.iadd d_Law_1397 s16 ?_
  obtain ⟨s18, H19⟩ := H17
  refine Wp.sald d_Law_1398 s18.1 s18.2 ?_
  obtain ⟨e20, P21, hd22, ho23, H24⟩ := H19
  refine Wq.VI (st := [.inl z11]) [.inl (g_x G ((x3 + 1)).toNat)] d_Law_1399 k_M_fits ml_Law_216 rfl rfl rfl (fun _ => by decide) (Nat.le_of_ble_eq_true rfl) hd22 ho23 (fun z26 m27 hp28 hz29 hw30 => ?_)
  have H25 := H24 z26 m27 hp28 hz29 hw30
  obtain ⟨H32, H33⟩ := H25
  refine Wp.icmp_eq 1542 d_Law_1402 (by decide) (fun c31 => ?_) (fun c31 => ?_)
  · have H34 := H32 c31
    exact H34
  · have H35 := H33 c31
    refine Wp.iconst d_Law_1405 (by decide) ?_
    exact H35.elim
theorem s_Law_1407 {l : Launch} {G : GT} {Q : Option MV → MM → Nat → Prop} {m : MM} (x3 : Int) (H : wfM m → inR x3 → (inR (x3 + 1)) ∧ ((0 ≤ (x3 + 1) ∧ (x3 + 1) < (g_L G : Int)) ∧ ((inR (x3 + 2)) ∧ ((0 ≤ (x3 + 2) ∧ (x3 + 2) < (g_L G : Int)) ∧ (∃ (e9 : Nat) (P10 : Int → MM → Prop), e9 < 400 ∧ CI l G Y_S_sure e9 [.inr (.inr 0), .inl (g_x G ((x3 + 1)).toNat), .inl (g_x G ((x3 + 2)).toNat)] m P10 ∧ (∀ z15 m16, P10 z15 m16 → inR z15 → wfM m16 → ((inR (x3 + 1)) ∧ ((0 ≤ (x3 + 1) ∧ (x3 + 1) < (g_L G : Int)) ∧ ((inR (x3 + 2)) ∧ ((0 ≤ (x3 + 2) ∧ (x3 + 2) < (g_L G : Int)) ∧ (∃ (e28 : Nat) (P29 : Int → MM → Prop), e28 < 400 ∧ CI l G Y_M_sure e28 [.inr (.inr 70), .inl (g_x G ((x3 + 1)).toNat), .inl (g_x G ((x3 + 2)).toNat)] m16 P29 ∧ (∀ z34 m35, P29 z34 m35 → inR z34 → wfM m35 → ((z15 = z34 → (Wq l G true Y_Law 400 Q 1542 [(0, .inr (.inr 1000)), (1, .inr (.inr 0)), (2, .inr (.inr 70)), (3, .inl x3)] [] m35)) ∧ (¬ (z15 = z34) → (False))))))))))))))) : Wq l G true Y_Law 400 Q 1407 [(0, .inr (.inr 1000)), (1, .inr (.inr 0)), (2, .inr (.inr 70)), (3, .inl x3)] [] m := by
  refine Wp.wf (fun hw _ hl hs => ?_)
  have H0 := H hw (hl _ (List.mem_of_getElem? (i := 3) rfl))
  refine Wp.aload_n 1 1 d_Law_1407 rfl rfl ?_
  refine Wp.aload_n 0 0 d_Law_1408 rfl rfl ?_
  refine Wp.iload_n 3 3 d_Law_1409 rfl rfl ?_
  refine Wp.iconst d_Law_1410 (by decide) ?_
  obtain ⟨s1, H2⟩ := H0
  refine Wp.iadd d_Law_1411 s1 ?_
  obtain ⟨s3, H4⟩ := H2
  refine Wp.sald d_Law_1412 s3.1 s3.2 ?_
  refine Wp.aload_n 0 0 d_Law_1413 rfl rfl ?_
  refine Wp.iload_n 3 3 d_Law_1414 rfl rfl ?_
  refine Wp.iconst d_Law_1415 (by decide) ?_
  obtain ⟨s5, H6⟩ := H4
  refine Wp.iadd d_Law_1416 s5 ?_
  obtain ⟨s7, H8⟩ := H6
  refine Wp.sald d_Law_1417 s7.1 s7.2 ?_
  obtain ⟨e9, P10, hd11, ho12, H13⟩ := H8
  refine Wq.VI (st := []) [.inl (g_x G ((x3 + 1)).toNat), .inl (g_x G ((x3 + 2)).toNat)] d_Law_1418 k_S_sure ml_Law_217 rfl rfl rfl (fun _ => by decide) (Nat.le_of_ble_eq_true rfl) hd11 ho12 (fun z15 m16 hp17 hz18 hw19 => ?_)
  have H14 := H13 z15 m16 hp17 hz18 hw19
  refine Wp.aload_n 2 2 d_Law_1421 rfl rfl ?_
  refine Wp.aload_n 0 0 d_Law_1422 rfl rfl ?_
  refine Wp.iload_n 3 3 d_Law_1423 rfl rfl ?_
  refine Wp.iconst d_Law_1424 (by decide) ?_
  obtain ⟨s20, H21⟩ := H14
  refine Wp.iadd d_Law_1425 s20 ?_
  obtain ⟨s22, H23⟩ := H21
  refine Wp.sald d_Law_1426 s22.1 s22.2 ?_
  refine Wp.aload_n 0 0 d_Law_1427 rfl rfl ?_
  refine Wp.iload_n 3 3 d_Law_1428 rfl rfl ?_
  refine Wp.iconst d_Law_1429 (by decide) ?_
  obtain ⟨s24, H25⟩ := H23
  refine Wp.iadd d_Law_1430 s24 ?_
  obtain ⟨s26, H27⟩ := H25
  refine Wp.sald d_Law_1431 s26.1 s26.2 ?_
  obtain ⟨e28, P29, hd30, ho31, H32⟩ := H27
  refine Wq.VI (st := [.inl z15]) [.inl (g_x G ((x3 + 1)).toNat), .inl (g_x G ((x3 + 2)).toNat)] d_Law_1432 k_M_sure ml_Law_220 rfl rfl rfl (fun _ => by decide) (Nat.le_of_ble_eq_true rfl) hd30 ho31 (fun z34 m35 hp36 hz37 hw38 => ?_)
  have H33 := H32 z34 m35 hp36 hz37 hw38
  obtain ⟨H40, H41⟩ := H33
  refine Wp.icmp_eq 1542 d_Law_1435 (by decide) (fun c39 => ?_) (fun c39 => ?_)
  · have H42 := H40 c39
    exact H42
  · have H43 := H41 c39
    refine Wp.iconst d_Law_1438 (by decide) ?_
    exact H43.elim
theorem s_Law_1440 {l : Launch} {G : GT} {Q : Option MV → MM → Nat → Prop} {m : MM} (x3 : Int) (H : wfM m → inR x3 → (inR (x3 + 1)) ∧ ((0 ≤ (x3 + 1) ∧ (x3 + 1) < (g_L G : Int)) ∧ ((inR (x3 + 2)) ∧ ((0 ≤ (x3 + 2) ∧ (x3 + 2) < (g_L G : Int)) ∧ (∃ (e9 : Nat) (P10 : Int → MM → Prop), e9 < 400 ∧ CI l G Y_S_ask e9 [.inr (.inr 0), .inl (g_x G ((x3 + 1)).toNat), .inl (g_x G ((x3 + 2)).toNat)] m P10 ∧ (∀ z15 m16, P10 z15 m16 → inR z15 → wfM m16 → ((inR (x3 + 1)) ∧ ((0 ≤ (x3 + 1) ∧ (x3 + 1) < (g_L G : Int)) ∧ ((inR (x3 + 2)) ∧ ((0 ≤ (x3 + 2) ∧ (x3 + 2) < (g_L G : Int)) ∧ (∃ (e28 : Nat) (P29 : Int → MM → Prop), e28 < 400 ∧ CI l G Y_M_ask e28 [.inr (.inr 70), .inl (g_x G ((x3 + 1)).toNat), .inl (g_x G ((x3 + 2)).toNat)] m16 P29 ∧ (∀ z34 m35, P29 z34 m35 → inR z34 → wfM m35 → ((z15 = z34 → (Wq l G true Y_Law 400 Q 1542 [(0, .inr (.inr 1000)), (1, .inr (.inr 0)), (2, .inr (.inr 70)), (3, .inl x3)] [] m35)) ∧ (¬ (z15 = z34) → (False))))))))))))))) : Wq l G true Y_Law 400 Q 1440 [(0, .inr (.inr 1000)), (1, .inr (.inr 0)), (2, .inr (.inr 70)), (3, .inl x3)] [] m := by
  refine Wp.wf (fun hw _ hl hs => ?_)
  have H0 := H hw (hl _ (List.mem_of_getElem? (i := 3) rfl))
  refine Wp.aload_n 1 1 d_Law_1440 rfl rfl ?_
  refine Wp.aload_n 0 0 d_Law_1441 rfl rfl ?_
  refine Wp.iload_n 3 3 d_Law_1442 rfl rfl ?_
  refine Wp.iconst d_Law_1443 (by decide) ?_
  obtain ⟨s1, H2⟩ := H0
  refine Wp.iadd d_Law_1444 s1 ?_
  obtain ⟨s3, H4⟩ := H2
  refine Wp.sald d_Law_1445 s3.1 s3.2 ?_
  refine Wp.aload_n 0 0 d_Law_1446 rfl rfl ?_
  refine Wp.iload_n 3 3 d_Law_1447 rfl rfl ?_
  refine Wp.iconst d_Law_1448 (by decide) ?_
  obtain ⟨s5, H6⟩ := H4
  refine Wp.iadd d_Law_1449 s5 ?_
  obtain ⟨s7, H8⟩ := H6
  refine Wp.sald d_Law_1450 s7.1 s7.2 ?_
  obtain ⟨e9, P10, hd11, ho12, H13⟩ := H8
  refine Wq.VI (st := []) [.inl (g_x G ((x3 + 1)).toNat), .inl (g_x G ((x3 + 2)).toNat)] d_Law_1451 k_S_ask ml_Law_221 rfl rfl rfl (fun _ => by decide) (Nat.le_of_ble_eq_true rfl) hd11 ho12 (fun z15 m16 hp17 hz18 hw19 => ?_)
  have H14 := H13 z15 m16 hp17 hz18 hw19
  refine Wp.aload_n 2 2 d_Law_1454 rfl rfl ?_
  refine Wp.aload_n 0 0 d_Law_1455 rfl rfl ?_
  refine Wp.iload_n 3 3 d_Law_1456 rfl rfl ?_
  refine Wp.iconst d_Law_1457 (by decide) ?_
  obtain ⟨s20, H21⟩ := H14
  refine Wp.iadd d_Law_1458 s20 ?_
  obtain ⟨s22, H23⟩ := H21
  refine Wp.sald d_Law_1459 s22.1 s22.2 ?_
  refine Wp.aload_n 0 0 d_Law_1460 rfl rfl ?_
  refine Wp.iload_n 3 3 d_Law_1461 rfl rfl ?_
  refine Wp.iconst d_Law_1462 (by decide) ?_
  obtain ⟨s24, H25⟩ := H23
  refine Wp.iadd d_Law_1463 s24 ?_
  obtain ⟨s26, H27⟩ := H25
  refine Wp.sald d_Law_1464 s26.1 s26.2 ?_
  obtain ⟨e28, P29, hd30, ho31, H32⟩ := H27
  refine Wq.VI (st := [.inl z15]) [.inl (g_x G ((x3 + 1)).toNat), .inl (g_x G ((x3 + 2)).toNat)] d_Law_1465 k_M_ask ml_Law_224 rfl rfl rfl (fun _ => by decide) (Nat.le_of_ble_eq_true rfl) hd30 ho31 (fun z34 m35 hp36 hz37 hw38 => ?_)
  have H33 := H32 z34 m35 hp36 hz37 hw38
  obtain ⟨H40, H41⟩ := H33
  refine Wp.icmp_eq 1542 d_Law_1468 (by decide) (fun c39 => ?_) (fun c39 => ?_)
  · have H42 := H40 c39
    exact H42
  · have H43 := H41 c39
    refine Wp.iconst d_Law_1471 (by decide) ?_
    exact H43.elim
theorem s_Law_1473 {l : Launch} {G : GT} {Q : Option MV → MM → Nat → Prop} {m : MM} (x3 : Int) (H : wfM m → inR x3 → (inR (x3 + 1)) ∧ ((0 ≤ (x3 + 1) ∧ (x3 + 1) < (g_L G : Int)) ∧ (∃ (e5 : Nat) (P6 : Int → MM → Prop), e5 < 400 ∧ CI l G Y_S_image e5 [.inr (.inr 0), .inl (g_x G ((x3 + 1)).toNat)] m P6 ∧ (∀ z11 m12, P6 z11 m12 → inR z11 → wfM m12 → ((inR (x3 + 1)) ∧ ((0 ≤ (x3 + 1) ∧ (x3 + 1) < (g_L G : Int)) ∧ (∃ (e20 : Nat) (P21 : Int → MM → Prop), e20 < 400 ∧ CI l G Y_M_image e20 [.inr (.inr 70), .inl (g_x G ((x3 + 1)).toNat)] m12 P21 ∧ (∀ z26 m27, P21 z26 m27 → inR z26 → wfM m27 → ((z11 = z26 → (Wq l G true Y_Law 400 Q 1542 [(0, .inr (.inr 1000)), (1, .inr (.inr 0)), (2, .inr (.inr 70)), (3, .inl x3)] [] m27)) ∧ (¬ (z11 = z26) → (False))))))))))) : Wq l G true Y_Law 400 Q 1473 [(0, .inr (.inr 1000)), (1, .inr (.inr 0)), (2, .inr (.inr 70)), (3, .inl x3)] [] m := by
  refine Wp.wf (fun hw _ hl hs => ?_)
  have H0 := H hw (hl _ (List.mem_of_getElem? (i := 3) rfl))
  refine Wp.aload_n 1 1 d_Law_1473 rfl rfl ?_
  refine Wp.aload_n 0 0 d_Law_1474 rfl rfl ?_
  refine Wp.iload_n 3 3 d_Law_1475 rfl rfl ?_
  refine Wp.iconst d_Law_1476 (by decide) ?_
  obtain ⟨s1, H2⟩ := H0
  refine Wp.iadd d_Law_1477 s1 ?_
  obtain ⟨s3, H4⟩ := H2
  refine Wp.sald d_Law_1478 s3.1 s3.2 ?_
  obtain ⟨e5, P6, hd7, ho8, H9⟩ := H4
  refine Wq.VI (st := []) [.inl (g_x G ((x3 + 1)).toNat)] d_Law_1479 k_S_image ml_Law_225 rfl rfl rfl (fun _ => by decide) (Nat.le_of_ble_eq_true rfl) hd7 ho8 (fun z11 m12 hp13 hz14 hw15 => ?_)
  have H10 := H9 z11 m12 hp13 hz14 hw15
  refine Wp.aload_n 2 2 d_Law_1482 rfl rfl ?_
  refine Wp.aload_n 0 0 d_Law_1483 rfl rfl ?_
  refine Wp.iload_n 3 3 d_Law_1484 rfl rfl ?_
  refine Wp.iconst d_Law_1485 (by decide) ?_
  obtain ⟨s16, H17⟩ := H10
  refine Wp.iadd d_Law_1486 s16 ?_
  obtain ⟨s18, H19⟩ := H17
  refine Wp.sald d_Law_1487 s18.1 s18.2 ?_
  obtain ⟨e20, P21, hd22, ho23, H24⟩ := H19
  refine Wq.VI (st := [.inl z11]) [.inl (g_x G ((x3 + 1)).toNat)] d_Law_1488 k_M_image ml_Law_228 rfl rfl rfl (fun _ => by decide) (Nat.le_of_ble_eq_true rfl) hd22 ho23 (fun z26 m27 hp28 hz29 hw30 => ?_)
  have H25 := H24 z26 m27 hp28 hz29 hw30
  obtain ⟨H32, H33⟩ := H25
  refine Wp.icmp_eq 1542 d_Law_1491 (by decide) (fun c31 => ?_) (fun c31 => ?_)
  · have H34 := H32 c31
    exact H34
  · have H35 := H33 c31
    refine Wp.iconst d_Law_1494 (by decide) ?_
    exact H35.elim
theorem s_Law_1496 {l : Launch} {G : GT} {Q : Option MV → MM → Nat → Prop} {m : MM} (x3 : Int) (H : wfM m → inR x3 → (inR (x3 + 1)) ∧ ((0 ≤ (x3 + 1) ∧ (x3 + 1) < (g_L G : Int)) ∧ (∃ (e5 : Nat) (P6 : Int → MM → Prop), e5 < 400 ∧ CI l G Y_S_back e5 [.inr (.inr 0), .inl (g_x G ((x3 + 1)).toNat)] m P6 ∧ (∀ z11 m12, P6 z11 m12 → inR z11 → wfM m12 → ((inR (x3 + 1)) ∧ ((0 ≤ (x3 + 1) ∧ (x3 + 1) < (g_L G : Int)) ∧ (∃ (e20 : Nat) (P21 : Int → MM → Prop), e20 < 400 ∧ CI l G Y_M_back e20 [.inr (.inr 70), .inl (g_x G ((x3 + 1)).toNat)] m12 P21 ∧ (∀ z26 m27, P21 z26 m27 → inR z26 → wfM m27 → ((z11 = z26 → (Wq l G true Y_Law 400 Q 1542 [(0, .inr (.inr 1000)), (1, .inr (.inr 0)), (2, .inr (.inr 70)), (3, .inl x3)] [] m27)) ∧ (¬ (z11 = z26) → (False))))))))))) : Wq l G true Y_Law 400 Q 1496 [(0, .inr (.inr 1000)), (1, .inr (.inr 0)), (2, .inr (.inr 70)), (3, .inl x3)] [] m := by
  refine Wp.wf (fun hw _ hl hs => ?_)
  have H0 := H hw (hl _ (List.mem_of_getElem? (i := 3) rfl))
  refine Wp.aload_n 1 1 d_Law_1496 rfl rfl ?_
  refine Wp.aload_n 0 0 d_Law_1497 rfl rfl ?_
  refine Wp.iload_n 3 3 d_Law_1498 rfl rfl ?_
  refine Wp.iconst d_Law_1499 (by decide) ?_
  obtain ⟨s1, H2⟩ := H0
  refine Wp.iadd d_Law_1500 s1 ?_
  obtain ⟨s3, H4⟩ := H2
  refine Wp.sald d_Law_1501 s3.1 s3.2 ?_
  obtain ⟨e5, P6, hd7, ho8, H9⟩ := H4
  refine Wq.VI (st := []) [.inl (g_x G ((x3 + 1)).toNat)] d_Law_1502 k_S_back ml_Law_229 rfl rfl rfl (fun _ => by decide) (Nat.le_of_ble_eq_true rfl) hd7 ho8 (fun z11 m12 hp13 hz14 hw15 => ?_)
  have H10 := H9 z11 m12 hp13 hz14 hw15
  refine Wp.aload_n 2 2 d_Law_1505 rfl rfl ?_
  refine Wp.aload_n 0 0 d_Law_1506 rfl rfl ?_
  refine Wp.iload_n 3 3 d_Law_1507 rfl rfl ?_
  refine Wp.iconst d_Law_1508 (by decide) ?_
  obtain ⟨s16, H17⟩ := H10
  refine Wp.iadd d_Law_1509 s16 ?_
  obtain ⟨s18, H19⟩ := H17
  refine Wp.sald d_Law_1510 s18.1 s18.2 ?_
  obtain ⟨e20, P21, hd22, ho23, H24⟩ := H19
  refine Wq.VI (st := [.inl z11]) [.inl (g_x G ((x3 + 1)).toNat)] d_Law_1511 k_M_back ml_Law_232 rfl rfl rfl (fun _ => by decide) (Nat.le_of_ble_eq_true rfl) hd22 ho23 (fun z26 m27 hp28 hz29 hw30 => ?_)
  have H25 := H24 z26 m27 hp28 hz29 hw30
  obtain ⟨H32, H33⟩ := H25
  refine Wp.icmp_eq 1542 d_Law_1514 (by decide) (fun c31 => ?_) (fun c31 => ?_)
  · have H34 := H32 c31
    exact H34
  · have H35 := H33 c31
    refine Wp.iconst d_Law_1517 (by decide) ?_
    exact H35.elim
theorem s_Law_1519 {l : Launch} {G : GT} {Q : Option MV → MM → Nat → Prop} {m : MM} (x3 : Int) (H : wfM m → inR x3 → (inR (x3 + 1)) ∧ ((0 ≤ (x3 + 1) ∧ (x3 + 1) < (g_L G : Int)) ∧ (∃ (e5 : Nat) (P6 : Int → MM → Prop), e5 < 400 ∧ CI l G Y_S_about e5 [.inr (.inr 0), .inl (g_x G ((x3 + 1)).toNat)] m P6 ∧ (∀ z11 m12, P6 z11 m12 → inR z11 → wfM m12 → ((inR (x3 + 1)) ∧ ((0 ≤ (x3 + 1) ∧ (x3 + 1) < (g_L G : Int)) ∧ (∃ (e20 : Nat) (P21 : Int → MM → Prop), e20 < 400 ∧ CI l G Y_M_about e20 [.inr (.inr 70), .inl (g_x G ((x3 + 1)).toNat)] m12 P21 ∧ (∀ z26 m27, P21 z26 m27 → inR z26 → wfM m27 → ((z11 = z26 → (Wq l G true Y_Law 400 Q 1542 [(0, .inr (.inr 1000)), (1, .inr (.inr 0)), (2, .inr (.inr 70)), (3, .inl x3)] [] m27)) ∧ (¬ (z11 = z26) → (False))))))))))) : Wq l G true Y_Law 400 Q 1519 [(0, .inr (.inr 1000)), (1, .inr (.inr 0)), (2, .inr (.inr 70)), (3, .inl x3)] [] m := by
  refine Wp.wf (fun hw _ hl hs => ?_)
  have H0 := H hw (hl _ (List.mem_of_getElem? (i := 3) rfl))
  refine Wp.aload_n 1 1 d_Law_1519 rfl rfl ?_
  refine Wp.aload_n 0 0 d_Law_1520 rfl rfl ?_
  refine Wp.iload_n 3 3 d_Law_1521 rfl rfl ?_
  refine Wp.iconst d_Law_1522 (by decide) ?_
  obtain ⟨s1, H2⟩ := H0
  refine Wp.iadd d_Law_1523 s1 ?_
  obtain ⟨s3, H4⟩ := H2
  refine Wp.sald d_Law_1524 s3.1 s3.2 ?_
  obtain ⟨e5, P6, hd7, ho8, H9⟩ := H4
  refine Wq.VI (st := []) [.inl (g_x G ((x3 + 1)).toNat)] d_Law_1525 k_S_about ml_Law_233 rfl rfl rfl (fun _ => by decide) (Nat.le_of_ble_eq_true rfl) hd7 ho8 (fun z11 m12 hp13 hz14 hw15 => ?_)
  have H10 := H9 z11 m12 hp13 hz14 hw15
  refine Wp.aload_n 2 2 d_Law_1528 rfl rfl ?_
  refine Wp.aload_n 0 0 d_Law_1529 rfl rfl ?_
  refine Wp.iload_n 3 3 d_Law_1530 rfl rfl ?_
  refine Wp.iconst d_Law_1531 (by decide) ?_
  obtain ⟨s16, H17⟩ := H10
  refine Wp.iadd d_Law_1532 s16 ?_
  obtain ⟨s18, H19⟩ := H17
  refine Wp.sald d_Law_1533 s18.1 s18.2 ?_
  obtain ⟨e20, P21, hd22, ho23, H24⟩ := H19
  refine Wq.VI (st := [.inl z11]) [.inl (g_x G ((x3 + 1)).toNat)] d_Law_1534 k_M_about ml_Law_236 rfl rfl rfl (fun _ => by decide) (Nat.le_of_ble_eq_true rfl) hd22 ho23 (fun z26 m27 hp28 hz29 hw30 => ?_)
  have H25 := H24 z26 m27 hp28 hz29 hw30
  obtain ⟨H32, H33⟩ := H25
  refine Wp.icmp_eq 1542 d_Law_1537 (by decide) (fun c31 => ?_) (fun c31 => ?_)
  · have H34 := H32 c31
    exact H34
  · have H35 := H33 c31
    refine Wp.iconst d_Law_1540 (by decide) ?_
    exact H35.elim
theorem s_Law_1542 {l : Launch} {G : GT} {Q : Option MV → MM → Nat → Prop} {m : MM} (x3 : Int) (H : wfM m → inR x3 → (inR (x3 + 6)) ∧ (Wq l G true Y_Law 400 Q 18 [(0, .inr (.inr 1000)), (1, .inr (.inr 0)), (2, .inr (.inr 70)), (3, .inl (x3 + 6))] [] m)) : Wq l G true Y_Law 400 Q 1542 [(0, .inr (.inr 1000)), (1, .inr (.inr 0)), (2, .inr (.inr 70)), (3, .inl x3)] [] m := by
  refine Wp.wf (fun hw _ hl hs => ?_)
  have H0 := H hw (hl _ (List.mem_of_getElem? (i := 3) rfl))
  obtain ⟨s1, H2⟩ := H0
  refine Wp.iinc 3 3 [(0, .inr (.inr 1000)), (1, .inr (.inr 0)), (2, .inr (.inr 70)), (3, .inl (x3 + 6))] d_Law_1542 rfl s1 (by decide) rfl ?_
  refine Wp.goto 18 d_Law_1545 (by decide) ?_
  exact H2
