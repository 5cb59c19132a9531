/-! The words of the reader, letter by letter, while things are made. -/
theorem dj_String_charAt_0 : decode Y_String_charAt.2.1 0 = .ok (.aload_n 0, 1) := by decide +kernel
theorem dj_String_charAt_1 : decode Y_String_charAt.2.1 1 = .ok (.invokevirtual 492, 3) := by decide +kernel
theorem dj_String_charAt_4 : decode Y_String_charAt.2.1 4 = .ok (.ifCond .eq 12, 3) := by decide +kernel
theorem dj_String_charAt_7 : decode Y_String_charAt.2.1 7 = .ok (.aload_n 0, 1) := by decide +kernel
theorem dj_String_charAt_8 : decode Y_String_charAt.2.1 8 = .ok (.getfield 9, 3) := by decide +kernel
theorem dj_String_charAt_11 : decode Y_String_charAt.2.1 11 = .ok (.iload_n 1, 1) := by decide +kernel
theorem dj_String_charAt_12 : decode Y_String_charAt.2.1 12 = .ok (.invokestatic 495, 3) := by decide +kernel
theorem dj_String_charAt_15 : decode Y_String_charAt.2.1 15 = .ok (.ireturn, 1) := by decide +kernel
theorem dj_StringLatin1_charAt_0 : decode Y_StringLatin1_charAt.2.1 0 = .ok (.iload_n 1, 1) := by decide +kernel
theorem dj_StringLatin1_charAt_1 : decode Y_StringLatin1_charAt.2.1 1 = .ok (.aload_n 0, 1) := by decide +kernel
theorem dj_StringLatin1_charAt_2 : decode Y_StringLatin1_charAt.2.1 2 = .ok (.arraylength, 1) := by decide +kernel
theorem dj_StringLatin1_charAt_3 : decode Y_StringLatin1_charAt.2.1 3 = .ok (.invokestatic 9, 3) := by decide +kernel
theorem dj_StringLatin1_charAt_6 : decode Y_StringLatin1_charAt.2.1 6 = .ok (.aload_n 0, 1) := by decide +kernel
theorem dj_StringLatin1_charAt_7 : decode Y_StringLatin1_charAt.2.1 7 = .ok (.iload_n 1, 1) := by decide +kernel
theorem dj_StringLatin1_charAt_8 : decode Y_StringLatin1_charAt.2.1 8 = .ok (.baload, 1) := by decide +kernel
theorem dj_StringLatin1_charAt_9 : decode Y_StringLatin1_charAt.2.1 9 = .ok (.sipush 255, 3) := by decide +kernel
theorem dj_StringLatin1_charAt_12 : decode Y_StringLatin1_charAt.2.1 12 = .ok (.iand, 1) := by decide +kernel
theorem dj_StringLatin1_charAt_13 : decode Y_StringLatin1_charAt.2.1 13 = .ok (.i2c, 1) := by decide +kernel
theorem dj_StringLatin1_charAt_14 : decode Y_StringLatin1_charAt.2.1 14 = .ok (.ireturn, 1) := by decide +kernel
theorem dj_String_checkIndex_0 : decode Y_String_checkIndex.2.1 0 = .ok (.iload_n 0, 1) := by decide +kernel
theorem dj_String_checkIndex_1 : decode Y_String_checkIndex.2.1 1 = .ok (.iload_n 1, 1) := by decide +kernel
theorem dj_String_checkIndex_2 : decode Y_String_checkIndex.2.1 2 = .ok (.getstatic 1053, 3) := by decide +kernel
theorem dj_String_checkIndex_5 : decode Y_String_checkIndex.2.1 5 = .ok (.invokestatic 1059, 3) := by decide +kernel
theorem dj_String_checkIndex_8 : decode Y_String_checkIndex.2.1 8 = .ok (.pop, 1) := by decide +kernel
theorem dj_String_checkIndex_9 : decode Y_String_checkIndex.2.1 9 = .ok (.return_, 1) := by decide +kernel
theorem dj_Preconditions_checkIndex_0 : decode Y_Preconditions_checkIndex.2.1 0 = .ok (.iload_n 0, 1) := by decide +kernel
theorem dj_Preconditions_checkIndex_1 : decode Y_Preconditions_checkIndex.2.1 1 = .ok (.ifCond .lt 8, 3) := by decide +kernel
theorem dj_Preconditions_checkIndex_4 : decode Y_Preconditions_checkIndex.2.1 4 = .ok (.iload_n 0, 1) := by decide +kernel
theorem dj_Preconditions_checkIndex_5 : decode Y_Preconditions_checkIndex.2.1 5 = .ok (.iload_n 1, 1) := by decide +kernel
theorem dj_Preconditions_checkIndex_6 : decode Y_Preconditions_checkIndex.2.1 6 = .ok (.if_icmp .lt 10, 3) := by decide +kernel
theorem dj_Preconditions_checkIndex_16 : decode Y_Preconditions_checkIndex.2.1 16 = .ok (.iload_n 0, 1) := by decide +kernel
theorem dj_Preconditions_checkIndex_17 : decode Y_Preconditions_checkIndex.2.1 17 = .ok (.ireturn, 1) := by decide +kernel
theorem wl_sioobe : Cond.fieldLink "java/lang/String" 1053 "jdk/internal/util/Preconditions" "SIOOBE_FORMATTER" "Ljava/util/function/BiFunction;" ∈ q_W := q_Wt 67 (by decide +kernel) rfl
def QK (z : Int) (m : MM) (n : Nat) : Option MV → MM → Nat → Prop := fun r m' n' => r = some (.inl z) ∧ m' = m ∧ n' = n
def q_PcV (G : GT) (ph : Bool) (x y : Int) (v : Value) (m : MM) (n : Nat) : Array Value → State → Prop := fun a U => a = #[.int (Int32.ofInt x), .int (Int32.ofInt y), v] ∧ v.category ≠ 2 ∧ q_R G ph m n U.heap ∧ q_X G U ∧ q_Y G U U.heap ∧ inR x ∧ inR y
theorem q_PcV_blind {G : GT} {ph : Bool} {x y : Int} {v : Value} {m : MM} {n : Nat} : FrameBlind (q_PcV G ph x y v m n) := by
  intro a U g mk h
  exact ⟨h.1, h.2.1, h.2.2.1, q_X.same (u := U) rfl h.2.2.2.1, q_Y.moved (u := U) (Vm.Alike.refl U.vm) h.2.2.2.2.1, h.2.2.2.2.2⟩
section Words0
variable {l : Launch} {G : GT} {lw : Bool} {Y : YD} {d : Nat} {ph : Bool} {Q : Option MV → MM → Nat → Prop} {pc : Nat} {lv : List (Nat × MV)} {st : List MV} {m : MM} {n bc bs : Nat}
/-- an index is looked at -/
theorem o_check {x y : Int} {v : Value} (h0 : 0 ≤ x) (h1 : x < y) : Met l Y_Preconditions_checkIndex.1 (Cond.code Y_Preconditions_checkIndex.1 Y_Preconditions_checkIndex.2.1 Y_Preconditions_checkIndex.2.2.1 Y_Preconditions_checkIndex.2.2.2 :: q_W) (q_rm d 0 0) (q_PcV G ph x y v m n) (q_Qc G ph (QK x m n)) 0 0 (q_A G) := by
  have hf := k_Preconditions_checkIndex.1
  have K : Wp l G false Y_Preconditions_checkIndex d ph (QK x m n) 0 [(0, .inl x), (1, .inl y)] [] m n 0 0 := by
    refine Wp.iload_n 0 0 dj_Preconditions_checkIndex_0 rfl rfl ?_
    refine Wp.if_lt 9 dj_Preconditions_checkIndex_1 (by decide) (fun q => absurd q (by omega)) (fun _ => ?_)
    refine Wp.iload_n 0 0 dj_Preconditions_checkIndex_4 rfl rfl ?_
    refine Wp.iload_n 1 1 dj_Preconditions_checkIndex_5 rfl rfl ?_
    refine Wp.icmp_lt 16 dj_Preconditions_checkIndex_6 (by decide) (fun _ => ?_) (fun q => absurd h1 q)
    refine Wp.iload_n 0 0 dj_Preconditions_checkIndex_16 rfl rfl ?_
    exact Wp.iret dj_Preconditions_checkIndex_17 rfl (fun _ => ⟨rfl, rfl, rfl⟩)
  refine Met.ofW (cc := Y_Preconditions_checkIndex.2.1) (maxL := Y_Preconditions_checkIndex.2.2.1) (ret := Y_Preconditions_checkIndex.2.2.2) hf.2.2.2.2.2 rfl ?_
  intro p e s mm args below meth c s₁ B hml hv
  obtain ⟨rfl, hcat, hR, hX, hY, wx, wy⟩ := hv
  have hts := atoms_spec (ws := Cond.code Y_Preconditions_checkIndex.1 Y_Preconditions_checkIndex.2.1 Y_Preconditions_checkIndex.2.2.1 Y_Preconditions_checkIndex.2.2.2 :: q_W) B.pre
  have hown : s.vm.findClass Y_Preconditions_checkIndex.1.cls = some mm.cls := findClass_of_methodNamed B.named
  have hlen : (lg_sl [.int (Int32.ofInt x), .int (Int32.ofInt y), v]).length = 3 := by
    show ([Slot.val (.int (Int32.ofInt x))] ++ ([Slot.val (.int (Int32.ofInt y))] ++ ((if v.category = 2 then [Slot.val v, .second] else [Slot.val v]) ++ []))).length = 3
    rw [if_neg hcat]
    rfl
  have hl := lv_entry [.int (Int32.ofInt x), .int (Int32.ofInt y), v] (n := 3) (by rw [hlen]; exact Nat.le_refl 3)
  have hl2 := lv_sub hl [0, 1] (l' := q_lvl G [(0, .inl x), (1, .inl y)]) rfl
  rw [show (#[.int (Int32.ofInt x), .int (Int32.ofInt y), v] : Array Value) = [.int (Int32.ofInt x), .int (Int32.ofInt y), v].toArray from rfl, lg_entry_eq]
  show W _ _ _ _ _ _ _ _ _ _ _ _ _ _ _ (F0 mm 0 (lg_sl [.int (Int32.ofInt x), .int (Int32.ofInt y), v] ++ List.replicate (3 - (lg_sl [.int (Int32.ofInt x), .int (Int32.ofInt y), v]).length) Slot.unset).toArray [])
  generalize (lg_sl [.int (Int32.ofInt x), .int (Int32.ofInt y), v] ++ List.replicate (3 - (lg_sl [.int (Int32.ofInt x), .int (Int32.ofInt y), v]).length) Slot.unset).toArray = ls at hl2 ⊢
  exact K p e s mm _ below meth c s.heap [] 0 0 ls 0 0 ⟨B.exec, B.bytes, hml, hown, fun w hw => hts w (List.mem_cons_of_mem _ hw), hX, hY, B.notSynchronized, B.returns, (name_of_methodNamed B.named B.method).1⟩ (fun h => by cases h) (Nat.zero_add _) (Nat.zero_add _) (fun q hq => by
    rcases List.mem_cons.mp hq with rfl | hq
    · exact wx
    · rw [List.mem_singleton.mp hq]
      exact wy) (fun v h => by cases h) hl2 hR va_S.rf
/-- getstatic of the formatter, and the look at the index -/
theorem Wp.chk {x y : Int} {d2 : Nat} (hd : decode Y.2.1 pc = .ok (.getstatic 1053, 3)) (hd3 : decode Y.2.1 (pc + 3) = .ok (.invokestatic 1059, 3)) (hY : Y.1.cls = "java/lang/String") (h0 : 0 ≤ x) (h1 : x < y) (hd2 : d2 < d) (hlw : lw = true → d ≤ 400) (hst : (st.map q_cat).sum ≤ 8)
    (K : Wp l G lw Y d ph Q (pc + 3 + 3) lv (.inl x :: st) m n bc bs) : Wp l G lw Y d ph Q pc lv (.inl y :: .inl x :: st) m n bc bs := by
  intro p e s mm args below meth cc H locs cells slots ls mc ms hC hLw e1 e2 w1 w2 hl1 hR hS
  have hts := hC.2.2.2.2.1
  have hown : s.vm.findClass "java/lang/String" = some mm.cls := by rw [← hY]; exact hC.2.2.2.1
  have hf := k_Preconditions_checkIndex.1
  have hrc := q_roomC (d := d) (fun h => (hLw h).2)
  have hlk : Cond.methodLink Y.1.cls 1059 Y_Preconditions_checkIndex.1 ∈ q_W := by rw [hY]; exact ml_String_1059
  have wx : inR x := wf_hd (wf_tl w2)
  have wy : inR y := wf_hd w2
  have go : ∀ v : Value, v.category ≠ 2 → W p l e (q_room lw d mc ms) s mm args below meth cc H locs cells slots (q_Z lw G ph Q below args s mc ms) (F0 mm (pc + 3) ls (v :: .int (Int32.ofInt y) :: .int (Int32.ofInt x) :: st.map (g_val G))) := fun v hv => by
    refine q_call (va_runS (As := [.int (Int32.ofInt x), .int (Int32.ofInt y), v]) (rest := st.map (g_val G)) ⟨hC.1, hC.2.1, hC.2.2.1, hC.2.2.2.1, hts⟩ (o_check (d := d2) (v := v) (m := m) (n := n) (ph := ph) (G := G) h0 h1)
      ⟨callB_of 3 hts (q_good hf) rfl rfl rfl (hts _ hf.2.1) (hts _ hlk) ⟨hf.2.2.1.1, hf.2.2.1.2, hf.2.2.2.1⟩ (q_roomF hd2 hlw hf.2.2.2.2.1 _ _), hts _ k_Preconditions_checkIndex.2⟩
      ⟨q_PcV_blind, fun U hU hW => ⟨rfl, hv, by rw [hU]; exact hR, hC.2.2.2.2.2.1.warm hW, by rw [hU]; exact (hC.2.2.2.2.2.2.1.kept hS.2.1).moved hW.alike, wx, wy⟩⟩ rfl rfl hl1.1 rfl (lv_room (by rw [q_sum]; exact hst)) hd3 (by rw [hrc.1, hrc.2]; omega)) hS (fun r m1 n1 H1 locs1 q1 q2 q3 q4 => ?_)
    obtain ⟨rfl, rfl, rfl⟩ := q1
    exact K p e s mm args below meth cc H1 locs1 (cells + 0) (slots + 0) ls mc ms hC hLw (by omega) (by omega) w1 (wf_cons (v := .inl x) wx (wf_tl (wf_tl w2))) hl1 q3 q4
  rcases hC.2.2.2.2.2.2.1.2.2 with hE | ⟨t, hE⟩
  · exact va_gets hC.1 hC.2.1 hE hS hown (hts _ wl_sioobe) (fun x hx => hx) hd (go _ (by decide))
  · exact va_gets hC.1 hC.2.1 hE hS hown (hts _ wl_sioobe) (fun x hx => hx) hd (go _ (by show 1 ≠ 2; decide))
theorem Wp.bret0 (hd : decode Y.2.1 pc = .ok (.ireturn, 1)) (hr : Y.2.2.2 = some .byte) (hq : Q (some (.inl 0)) m n) : Wp l G false Y d ph Q pc lv [.inl 0] m n bc bs := by
  intro p e s mm args below meth c H locs cells slots ls mc ms hC hLw e1 e2 w1 w2 hl hR hS
  refine W.widen (k := mc) (n := ms) (by omega) (by omega) ?_
  exact W.zret (ty := .byte) hC.1 hC.2.1 (hC.2.2.2.2.2.2.2.2.1.trans hr) (by decide) (fun t ht _ => q_end (r := some (.inl 0)) hq (fun v hv => by cases hv; exact wf_hd w2) hR hS ht) hS.2.2 hd hC.2.2.2.2.2.2.2.1
theorem Wp.cret {z : Int} (hd : decode Y.2.1 pc = .ok (.ireturn, 1)) (hr : Y.2.2.2 = some .char) (hz : narrow .char (.int (Int32.ofInt z)) = .int (Int32.ofInt z)) (hq : Q (some (.inl z)) m n) : Wp l G false Y d ph Q pc lv [.inl z] m n bc bs := by
  intro p e s mm args below meth c H locs cells slots ls mc ms hC hLw e1 e2 w1 w2 hl hR hS
  refine W.widen (k := mc) (n := ms) (by omega) (by omega) ?_
  exact W.zret (ty := .char) hC.1 hC.2.1 (hC.2.2.2.2.2.2.2.2.1.trans hr) hz (fun t ht _ => q_end (r := some (.inl z)) hq (fun v hv => by cases hv; exact wf_hd w2) hR hS ht) hS.2.2 hd hC.2.2.2.2.2.2.2.1
theorem o_coder : q_Ok l G ph Y_String_coder d [.inr (.inr (1001 + 0))] m n 0 0 (QK 0 m n) := by
  refine q_Ok.of k_String_coder.1 (Nat.le_of_ble_eq_true rfl) ?_
  show Wp l G false Y_String_coder d ph (QK 0 m n) 0 [(0, .inr (.inr (1001 + 0)))] [] m n 0 0
  refine Wp.gets1 d_String_coder_0 rfl ?_
  refine Wp.if_eq 13 d_String_coder_3 (by decide) (fun c => absurd c (by decide)) (fun _ => ?_)
  refine Wp.aload_n 0 0 d_String_coder_6 rfl rfl ?_
  refine Wp.getTc (i := 0) d_String_coder_7 rfl (by decide) ?_
  refine Wp.goto 14 d_String_coder_10 (by decide) ?_
  exact Wp.bret0 d_String_coder_14 rfl ⟨rfl, rfl, rfl⟩
theorem o_latin : q_Ok l G ph Y_String_isLatin1 d [.inr (.inr (1001 + 0))] m n 0 0 (QK 1 m n) := by
  refine q_Ok.of k_String_isLatin1.1 (Nat.le_of_ble_eq_true rfl) ?_
  show Wp l G false Y_String_isLatin1 d ph (QK 1 m n) 0 [(0, .inr (.inr (1001 + 0)))] [] m n 0 0
  refine Wp.gets1 d_String_isLatin1_0 rfl ?_
  refine Wp.if_eq 17 d_String_isLatin1_3 (by decide) (fun c => absurd c (by decide)) (fun _ => ?_)
  refine Wp.aload_n 0 0 d_String_isLatin1_6 rfl rfl ?_
  refine Wp.getTc (i := 0) d_String_isLatin1_7 rfl (by decide) ?_
  refine Wp.if_ne 17 d_String_isLatin1_10 (by decide) (fun c => absurd c (by decide)) (fun _ => ?_)
  refine Wp.iconst d_String_isLatin1_13 (by decide) ?_
  refine Wp.goto 18 d_String_isLatin1_14 (by decide) ?_
  exact Wp.zret d_String_isLatin1_18 rfl (by decide) ⟨rfl, rfl, rfl⟩
theorem o_length (hG : GVok G) : q_Ok l G ph Y_String_length (d + 1) [.inr (.inr (1001 + 0))] m n 0 0 (QK 79 m n) := by
  refine q_Ok.of k_String_length.1 (Nat.le_of_ble_eq_true rfl) ?_
  show Wp l G false Y_String_length (d + 1) ph (QK 79 m n) 0 [(0, .inr (.inr (1001 + 0)))] [] m n 0 0
  refine Wp.aload_n 0 0 d_String_length_0 rfl rfl ?_
  refine Wp.getTv (i := 0) hG d_String_length_1 rfl (by decide) ?_
  refine Wp.tlen (i := 0) hG d_String_length_4 (by decide) ?_
  refine Wp.aload_n 0 0 d_String_length_5 rfl rfl ?_
  refine Wp.callT (i := 0) (d2 := d) (bc1 := 0) (bs1 := 0) (st := [.inl ((q_len.getD 0 0 : Nat) : Int)]) [] d_String_length_6 k_String_coder ml_String_335 (o_coder (m := m) (n := n)) rfl (by decide) rfl (Nat.lt_succ_self d) (fun h => by cases h) (Nat.le_of_ble_eq_true rfl) (Nat.le_refl 0) (Nat.le_refl 0) (fun r m1 n1 h => ?_)
  obtain ⟨rfl, rfl, rfl⟩ := h
  show Wp l G false Y_String_length (d + 1) ph (QK 79 _ _) 9 [(0, .inr (.inr (1001 + 0)))] [.inl 0, .inl 79] _ _ 0 0
  refine Wp.ishr d_String_length_9 ?_
  rw [show bShr 79 0 = 79 by decide +kernel]
  exact Wp.iret d_String_length_10 rfl (fun _ => ⟨rfl, rfl, rfl⟩)
theorem o_checkI {x y : Int} (h0 : 0 ≤ x) (h1 : x < y) : q_Ok l G ph Y_String_checkIndex (d + 1) [.inl x, .inl y] m n 0 0 (fun r m' n' => r = none ∧ m' = m ∧ n' = n) := by
  refine q_Ok.of k_String_checkIndex.1 (Nat.le_of_ble_eq_true rfl) ?_
  show Wp l G false Y_String_checkIndex (d + 1) ph _ 0 [(0, .inl x), (1, .inl y)] [] m n 0 0
  refine Wp.iload_n 0 0 dj_String_checkIndex_0 rfl rfl ?_
  refine Wp.iload_n 1 1 dj_String_checkIndex_1 rfl rfl ?_
  refine Wp.chk (d2 := d) dj_String_checkIndex_2 dj_String_checkIndex_5 rfl h0 h1 (Nat.lt_succ_self d) (fun h => by cases h) (Nat.le_of_ble_eq_true rfl) ?_
  refine Wp.pop dj_String_checkIndex_8 rfl ?_
  exact Wp.vret dj_String_checkIndex_9 rfl ⟨rfl, rfl, rfl⟩
/-- a letter of the words -/
def cT (j : Int) : Int := tB 0 j
theorem cT_tab : ∀ j : Fin 79, bI2c (bAnd (tB 0 ((j.val : Nat) : Int)) 255) = cT ((j.val : Nat) : Int) ∧ narrow .char (.int (Int32.ofInt (cT ((j.val : Nat) : Int)))) = .int (Int32.ofInt (cT ((j.val : Nat) : Int))) := by decide +kernel
theorem cT_ok {j : Int} (h0 : 0 ≤ j) (h1 : j < 79) : bI2c (bAnd (tB 0 j) 255) = cT j ∧ narrow .char (.int (Int32.ofInt (cT j))) = .int (Int32.ofInt (cT j)) := by
  have h := cT_tab ⟨j.toNat, by omega⟩
  rw [show (((⟨j.toNat, by omega⟩ : Fin 79).val : Nat) : Int) = j by show ((j.toNat : Nat) : Int) = j; omega] at h
  exact h
theorem o_char1 (hG : GVok G) {j : Int} (h0 : 0 ≤ j) (h1 : j < 79) : q_Ok l G ph Y_StringLatin1_charAt (d + 2) [.inr (.inr (1003 + 0)), .inl j] m n 0 0 (QK (cT j) m n) := by
  refine q_Ok.of k_StringLatin1_charAt.1 (Nat.le_of_ble_eq_true rfl) ?_
  show Wp l G false Y_StringLatin1_charAt (d + 2) ph _ 0 [(0, .inr (.inr (1003 + 0))), (1, .inl j)] [] m n 0 0
  refine Wp.iload_n 1 1 dj_StringLatin1_charAt_0 rfl rfl ?_
  refine Wp.aload_n 0 0 dj_StringLatin1_charAt_1 rfl rfl ?_
  refine Wp.tlen (i := 0) hG dj_StringLatin1_charAt_2 (by decide) ?_
  show Wp l G false Y_StringLatin1_charAt (d + 2) ph _ 3 [(0, .inr (.inr (1003 + 0))), (1, .inl j)] ([.inl j, .inl 79].reverse ++ []) m n 0 0
  refine Wp.callS (d2 := d + 1) (bc1 := 0) (bs1 := 0) [.inl j, .inl 79] dj_StringLatin1_charAt_3 k_String_checkIndex ml_StringLatin1_9 (o_checkI h0 h1) rfl (Nat.lt_succ_self (d + 1)) (fun h => by cases h) (Nat.le_of_ble_eq_true rfl) (Nat.le_refl 0) (Nat.le_refl 0) (fun r m1 n1 h => ?_)
  obtain ⟨rfl, rfl, rfl⟩ := h
  show Wp l G false Y_StringLatin1_charAt (d + 2) ph _ 6 [(0, .inr (.inr (1003 + 0))), (1, .inl j)] [] _ _ 0 0
  refine Wp.aload_n 0 0 dj_StringLatin1_charAt_6 rfl rfl ?_
  refine Wp.iload_n 1 1 dj_StringLatin1_charAt_7 rfl rfl ?_
  refine Wp.tald (i := 0) hG dj_StringLatin1_charAt_8 (by decide) h0 h1 ?_
  refine Wp.sipush dj_StringLatin1_charAt_9 (by decide) (by decide) ?_
  refine Wp.iand dj_StringLatin1_charAt_12 ?_
  refine Wp.i2c dj_StringLatin1_charAt_13 ?_
  rw [(cT_ok h0 h1).1]
  exact Wp.cret dj_StringLatin1_charAt_14 rfl (cT_ok h0 h1).2 ⟨rfl, rfl, rfl⟩
theorem o_char (hG : GVok G) {j : Int} (h0 : 0 ≤ j) (h1 : j < 79) : q_Ok l G ph Y_String_charAt (d + 3) [.inr (.inr (1001 + 0)), .inl j] m n 0 0 (QK (cT j) m n) := by
  refine q_Ok.of k_String_charAt.1 (Nat.le_of_ble_eq_true rfl) ?_
  show Wp l G false Y_String_charAt (d + 3) ph _ 0 [(0, .inr (.inr (1001 + 0))), (1, .inl j)] [] m n 0 0
  refine Wp.aload_n 0 0 dj_String_charAt_0 rfl rfl ?_
  refine Wp.callT (i := 0) (d2 := d) (bc1 := 0) (bs1 := 0) (st := []) [] dj_String_charAt_1 k_String_isLatin1 ml_String_492 (o_latin (m := m) (n := n)) rfl (by decide) rfl (by omega) (fun h => by cases h) (Nat.le_of_ble_eq_true rfl) (Nat.le_refl 0) (Nat.le_refl 0) (fun r m1 n1 h => ?_)
  obtain ⟨rfl, rfl, rfl⟩ := h
  show Wp l G false Y_String_charAt (d + 3) ph _ 4 [(0, .inr (.inr (1001 + 0))), (1, .inl j)] [.inl 1] _ _ 0 0
  refine Wp.if_eq 16 dj_String_charAt_4 (by decide) (fun c => absurd c (by decide)) (fun _ => ?_)
  refine Wp.aload_n 0 0 dj_String_charAt_7 rfl rfl ?_
  refine Wp.getTv (i := 0) hG dj_String_charAt_8 rfl (by decide) ?_
  refine Wp.iload_n 1 1 dj_String_charAt_11 rfl rfl ?_
  show Wp l G false Y_String_charAt (d + 3) ph _ 12 [(0, .inr (.inr (1001 + 0))), (1, .inl j)] ([.inr (.inr (1003 + 0)), .inl j].reverse ++ []) _ _ 0 0
  refine Wp.callS (d2 := d + 2) (bc1 := 0) (bs1 := 0) [.inr (.inr (1003 + 0)), .inl j] dj_String_charAt_12 k_StringLatin1_charAt ml_String_495 (o_char1 hG h0 h1) rfl (Nat.lt_succ_self (d + 2)) (fun h => by cases h) (Nat.le_of_ble_eq_true rfl) (Nat.le_refl 0) (Nat.le_refl 0) (fun r m1 n1 h => ?_)
  obtain ⟨rfl, rfl, rfl⟩ := h
  exact Wp.cret dj_String_charAt_15 rfl (cT_ok h0 h1).2 ⟨rfl, rfl, rfl⟩
end Words0
