/-! where a letter stands among the signs -/
section Index
variable {l : Launch} {G : GT} {d : Nat} {m : MM}
theorem c_coder : CI l G Y_String_coder d [.inr (.inr (1001 + 1))] m (fun z m' => z = 0 ∧ m = m') := e_String_coder (fun _ => ⟨rfl, rfl⟩)
theorem c_length (hG : GVok G) : CI l G Y_String_length (d + 1) [.inr (.inr (1001 + 1))] m (fun z m' => z = 11 ∧ m = m') :=
  e_String_length hG (fun _ => ⟨d, _, by omega, c_coder, fun z m1 hz _ _ => by
    obtain ⟨rfl, rfl⟩ := hz
    exact ⟨by decide +kernel, rfl⟩⟩)
theorem tB_sgn : ∀ j : Fin 11, tB 1 (j.val : Int) ∈ SGN := by decide +kernel
theorem sgn_tB : ∀ c ∈ SGN, ∃ j : Fin 11, tB 1 (j.val : Int) = c := by decide +kernel
theorem c_indexOfChar (hG : GVok G) {c : Int} (hc : 0 ≤ c ∧ c ≤ 255) : CI l G Y_StringLatin1_indexOfChar d [.inr (.inr (1003 + 1)), .inl c, .inl 0, .inl 11] m (fun z m' => (z < 0 ↔ c ∉ SGN) ∧ m = m') := by
  have hb : ∀ x : Int, 37 ≤ x → x ≤ 62 → (x = bI2b c ↔ x = c) := fun x h1 h2 => by
    unfold bI2b
    have e := Int.bmod_def c 256
    omega
  refine e_StringLatin1_indexOfChar _ _ _ (fun _ _ _ _ => ?_)
  have loop : ∀ (s : Nat) (i : Int), i + s = 11 → 0 ≤ i → (∀ t, 0 ≤ t → t < i → tB 1 t ≠ c) → Wq l G false Y_StringLatin1_indexOfChar d (QI fun z m' => (z < 0 ↔ c ∉ SGN) ∧ m = m') 7 [(0, .inr (.inr (1003 + 1))), (3, .inl 11), (4, .inl (bI2b c)), (5, .inl i)] [] m := by
    intro s
    induction s with
    | zero =>
      intro i hi i0 hno
      refine s_StringLatin1_indexOfChar_7 hG _ _ _ (fun _ _ _ _ => ⟨fun _ => ⟨⟨fun _ h => ?_, fun _ => by decide⟩, rfl⟩, fun q => absurd (show i ≥ 11 by omega) q⟩)
      obtain ⟨j, hj⟩ := sgn_tB c h
      have := j.isLt
      exact hno j.val (by omega) (by omega) hj
    | succ s ih =>
      intro i hi i0 hno
      have hs : tB 1 i ∈ SGN := by
        have := tB_sgn ⟨i.toNat, by omega⟩
        rw [show ((⟨i.toNat, by omega⟩ : Fin 11).val : Int) = i by show ((i.toNat : Nat) : Int) = i; omega] at this
        exact this
      have hr := sgn_rng hs
      have hq := hb (tB 1 i) hr.1 hr.2
      refine s_StringLatin1_indexOfChar_7 hG _ _ _ (fun _ _ _ _ => ⟨fun q => absurd q (by omega), fun _ => ⟨⟨i0, by omega⟩, fun q => ⟨by omega, ih (i + 1) (by omega) (by omega) (fun t t0 t1 => ?_)⟩, fun q => ⟨⟨fun g => by omega, fun g => ?_⟩, rfl⟩⟩⟩)
      · by_cases e : t = i
        · rw [e]; exact fun g => q (hq.mpr g)
        · exact hno t t0 (by omega)
      · rw [← hq.mp (Classical.not_not.mp q)] at g
        exact absurd hs g
  exact loop 11 0 (by omega) (Int.le_refl 0) (fun t t0 t1 => by omega)
theorem c_indexL (hG : GVok G) {c : Int} : CI l G Y_StringLatin1_indexOf (d + 1) [.inr (.inr (1003 + 1)), .inl c, .inl 0, .inl 11] m (fun z m' => (z < 0 ↔ c ∉ SGN) ∧ m = m') := by
  have out : (c < 0 ∨ 255 < c) → ((-1 : Int) < 0 ↔ c ∉ SGN) := fun h => ⟨fun _ g => by have := sgn_rng g; omega, fun _ => by decide⟩
  refine e_StringLatin1_indexOf hG _ _ _ (by omega) (fun _ _ _ _ => ⟨d, _, by omega, e_StringLatin1_canEncode (P := fun z m' => (z = 0 ↔ (c < 0 ∨ 255 < c)) ∧ m = m') c (fun _ _ => ⟨fun q => ⟨⟨fun _ => Or.inl q, fun _ => rfl⟩, rfl⟩, fun q => ⟨fun q2 => ⟨⟨fun _ => Or.inr q2, fun _ => rfl⟩, rfl⟩, fun q2 => ⟨⟨fun g => absurd g (by decide), fun g => by omega⟩, rfl⟩⟩⟩), fun z m1 hz _ _ => ?_⟩)
  obtain ⟨hz, rfl⟩ := hz
  refine ⟨fun q => ⟨fun _ => ⟨d, _, by omega, c_indexOfChar hG (c := c) ?_, fun z2 m2 h2 _ _ => h2⟩, fun q2 => absurd (by decide) q2⟩, fun q => ⟨out (hz.mp (Classical.not_not.mp q)), rfl⟩⟩
  have : ¬ (c < 0 ∨ 255 < c) := fun g => q (hz.mpr g)
  omega
theorem c_indexOf (hG : GVok G) {c : Int} : CI l G Y_String_indexOf_I (d + 3) [.inr (.inr (1001 + 1)), .inl c] m (fun z m' => (z < 0 ↔ c ∉ SGN) ∧ m = m') := by
  refine e_String_indexOf_I c (fun _ _ => ⟨d + 2, fun z m' => (z < 0 ↔ c ∉ SGN) ∧ m = m', by omega, ?_, fun z m1 h _ _ => h⟩)
  refine e_String_indexOf_II hG c 0 (by omega) (fun _ _ _ => ⟨d + 1, _, by omega, c_length hG, fun z m1 hz _ _ => ?_⟩)
  obtain ⟨rfl, rfl⟩ := hz
  exact ⟨d + 1, _, by omega, c_indexL hG, fun z m1 h _ _ => h⟩
end Index
