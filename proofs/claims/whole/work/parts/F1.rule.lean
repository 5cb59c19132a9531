/-! a formula read by the reference -/
section RuleM
variable {l : Launch} {G : GT} {d : Nat} {m : MM} {T : Int → Int} {N p r u : Int} {cs : List Int} {S : Pile} {R : Rs} {k : Nat}
def EdM (T : Int → Int) (N r : Int) (R : Rs) (m m' : MM) : Prop := FrM r m m' ∧ (∀ f, R = .inl f → FtM f m' ∧ TsM (tx m') N m') ∧ ∀ p' u' cs', R = .inr (p', u', cs') → CoM T N r p' u' cs' m' ∧ 0 ≤ u' ∧ u' ≤ 30 ∧ (cs'.length : Int) ≤ 278
theorem c_e (hC : CoM T N r p 0 [] m) (hE : En T N k true [(8, 0)] p 0 [] R) : CV l G Y_M_e (d + 4) [.inr (.inr 70)] m (EdM T N r R m) := by
  generalize hQ : EdM T N r R m = Q
  have loop : ∀ (j : Nat) (i : Nat), i ≤ j → ∀ (w : Bool) (S : Pile) (p u : Int) (cs : List Int) (m1 : MM), (w = true → S ≠ []) → En T N i w S p u cs R → FmS T N r w S p u cs m1 → FrM r m m1 → Wq l G false Y_M_e (d + 4) (QV Q) 19 [(0, .inr (.inr 70)), (1, .inl (if w = true then 1 else 0))] [] m1 := by
    intro j
    induction j with
    | zero =>
      intro i hi w S p u cs m1 _ hE
      have : i = 0 := by omega
      subst this
      exact False.elim hE
    | succ j ih =>
      intro i hi w S p u cs m1 hwS hE hF hFr
      match i, hE with
      | 0, hE => exact False.elim hE
      | i + 1, hE =>
        have h4 := hF.1.2.1
        have after : ∀ z m2, NxM T N r i R m1 z m2 → Wq l G false Y_M_e (d + 4) (QV Q) 19 [(0, .inr (.inr 70)), (1, .inl z)] [] m2 := by
          intro z m2 h2
          obtain ⟨f2, g2⟩ := h2
          rcases g2 with ⟨f, hR, hf, hts⟩ | ⟨k', w', S', p', u', cs', hk', rfl, hw', hE', hF'⟩
          · refine s_M_e_19 _ (fun _ _ => ⟨d, _, by omega, c_isGoodM2, fun z2 m3 hz2 _ _ => ?_⟩)
            obtain ⟨hz2, rfl⟩ := hz2
            have hne : m2 70 4 ≠ 0 := by rw [hf.1]; exact hf.2.2
            refine ⟨fun _ => ?_, fun q => absurd (hz2.mpr hne) q⟩
            rw [← hQ]
            exact ⟨hFr.tr f2, fun f' hf' => by rw [hR] at hf'; cases hf'; exact ⟨hf, hts⟩, fun p' u' cs' h => by rw [hR] at h; cases h⟩
          · exact ih k' (by omega) w' S' p' u' cs' m2 hw' hE' hF' (hFr.tr f2)
        refine s_M_e_19 _ (fun _ _ => ⟨d, _, by omega, c_isGoodM2, fun z2 m3 hz2 _ _ => ?_⟩)
        obtain ⟨hz2, rfl⟩ := hz2
        refine ⟨fun q => absurd h4 (hz2.mp q), fun _ => ⟨fun c0 => ?_, fun c0 => ?_⟩⟩
        · have hS : S = [] := by
            have := hF.2.1.1
            match S with
            | [] => rfl
            | e :: S => rw [List.length_cons] at this; omega
          subst hS
          match w, hwS, hE with
          | true, hwS, _ => exact absurd rfl (hwS rfl)
          | false, _, hE =>
            have hR : R = .inr (p, u, cs) := hE
            rw [← hQ]
            refine ⟨hFr, fun f hf => (by rw [hR] at hf; cases hf), fun p' u' cs' h => ?_⟩
            rw [hR] at h
            cases h
            exact ⟨hF.1, hF.2.2.2.2.1, hF.2.2.2.2.2.1, hF.2.2.len.2⟩
        · have hS : S ≠ [] := fun q => by
            have := hF.2.1.1
            rw [q] at this
            exact c0 (by rw [this]; decide)
          match w, hwS, hE, hF with
          | true, _, hE, hF =>
            exact ⟨fun q => absurd q (by decide), fun _ => ⟨d + 3, _, by omega, c_unit hF hS hE, fun z m2 h2 _ _ => after z m2 h2⟩⟩
          | false, _, hE, hF =>
            exact ⟨fun _ => ⟨d + 3, _, by omega, c_behindUnit hF hS hE, fun z m2 h2 _ _ => after z m2 h2⟩, fun q => absurd rfl q⟩
  refine e_M_e (fun _ m1 e1 m2 e2 => ?_)
  have C2 : CoM T N r p 0 [] m2 := by rw [e2, e1]; exact (hC.put (Or.inr rfl)).put (Or.inl rfl)
  have k32 : m2 70 32 = ([] : Pile).length := by rw [e2, up_off (by decide), e1, up_at]; rfl
  have k31 : m2 70 31 = 0 := by rw [e2, up_at]
  have F2 : FrM r m m2 := by rw [e2, e1]; exact FrM.tr (FrM.put (by decide)) (FrM.put (by decide))
  have z0 : (([] : Pile).length : Int) = 0 := rfl
  refine ⟨d, _, by omega, c_pushE (by rw [k32, z0]; decide), fun m3 e3 _ => ?_⟩
  obtain ⟨P4, P5, P6⟩ := PiM.push (e := (8, 0)) (S := []) (m := m2) trivial k32 e3 rfl (fun q => absurd q (by decide))
  exact loop k k (Nat.le_refl k) true [(8, 0)] p 0 [] m3 (fun _ => by simp) hE ⟨C2.push e3, ⟨P5, P4, by rw [P6, k31]; rfl⟩, ⟨⟨by decide, by decide⟩, fun q => absurd q (by decide), Or.inr (Or.inr (Or.inl rfl)), ⟨fun _ => rfl, fun _ => rfl⟩, trivial⟩, by decide, by decide, by decide, by decide⟩ (F2.tr e3.frm)
end RuleM
