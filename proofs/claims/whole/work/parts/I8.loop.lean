/-! the law's loop -/
section LawLoop
variable {l : Launch} {G : GT} {Q : Option MV → MM → Nat → Prop}
theorem law_go (hG : GVok G) : ∀ (t : Nat) (c : Int) (m : MM), c + t = 513 → 0 ≤ c → Inv c m → Wq l G true Y_Law 400 Q 18 [(0, .inr (.inr 1000)), (1, .inr (.inr 0)), (2, .inr (.inr 70)), (3, .inl (6 * c))] [] m := by
  intro t
  induction t with
  | zero =>
    intro c m hct c0 hI
    exact s_Law_18 _ (fun _ _ hL => ⟨by unfold inR; omega, fun _ => trivial, fun q => absurd (show 6 * c > (g_L G : Int) - 6 by omega) q⟩)
  | succ t ih =>
    intro c m hct c0 hI
    have nx : ∀ m1, Inv (c + 1) m1 → Wq l G true Y_Law 400 Q 1542 [(0, .inr (.inr 1000)), (1, .inr (.inr 0)), (2, .inr (.inr 70)), (3, .inl (6 * c))] [] m1 := fun m1 h => s_Law_1542 _ (fun _ _ => ⟨by unfold inR; omega, by
      rw [show 6 * c + 6 = 6 * (c + 1) by omega]
      exact ih (c + 1) m1 (by omega) (by omega) h⟩)
    have sk : Inv (c + 1) m := by
      obtain ⟨n, D, W, br, b, b', fs, lk, hd, h⟩ := hI
      exact h.up1
    refine s_Law_18 _ (fun _ _ hL => ⟨by unfold inR; omega, fun _ => trivial, fun q => ?_⟩)
    have hx : 0 ≤ 6 * c ∧ 6 * c + 6 ≤ (g_L G : Int) := by omega
    have hc : 0 ≤ c ∧ c ≤ 511 := by omega
    refine ⟨by omega, fun _ => l_feed hx hL hI hc nx, fun _ => l_end hx hL hI hc nx, fun _ => l_table hG hI hc nx, fun _ => l_fault hx hL hI hc nx, fun _ => l_plate hx hL hI hc nx, fun _ => l_wide hx hL hI hc nx, fun _ => l_far hx hL hI hc nx, fun _ => l_day hx hL hI hc nx, fun _ => l_drop hx hL hI hc nx, fun _ => l_topple hx hL hI hc nx, fun _ => l_settle hx hL hI hc nx, fun _ => l_sweep hx hL hI hc nx, fun _ => l_undo hx hL hI hc nx, fun _ => l_redo hx hL hI hc nx, fun _ => l_will hx hL hI hc nx, fun _ => l_over hx hL hI hc nx, fun _ => l_rest hx hL hI hc nx, fun _ => l_often hx hL hI hc nx, fun _ => l_spilt hx hL hI hc nx, fun _ => l_row hx hL hI hc nx, fun _ => l_rounds hx hL hI hc nx, fun _ => l_slide hx hL hI hc nx, fun _ => l_steepest hx hL hI hc nx, fun _ => l_quiet hx hL hI hc nx, fun _ => l_fire hx hL hI hc nx, fun _ => l_many hx hL hI hc nx, fun _ => l_level hx hL hI hc nx, fun _ => l_levels hx hL hI hc nx, fun _ => l_mend hx hL hI hc nx, fun _ => l_nought hx hL hI hc nx, fun _ => l_own hx hL hI hc nx, fun _ => l_bare hx hL hI hc nx, fun _ => l_sumo hx hL hI hc nx, fun _ => l_one hx hL hI hc nx, fun _ => l_cycle hx hL hI hc nx, fun _ => l_wheel hx hL hI hc nx, fun _ => l_credit hx hL hI hc nx, fun _ => l_rank hx hL hI hc nx, fun _ => l_mean hx hL hI hc nx, fun _ => l_parts hx hL hI hc nx, fun _ => l_like hx hL hI hc nx, fun _ => l_duel hx hL hI hc nx, fun _ => l_law hx hL hI hc nx, fun _ => l_odds hx hL hI hc nx, fun _ => l_lies hx hL hI hc nx, fun _ => l_seen hx hL hI hc nx, fun _ => l_untell hx hL hI hc nx, fun _ => l_later hx hL hI hc nx, fun _ => l_fits hx hL hI hc nx, fun _ => l_sure hx hL hI hc nx, fun _ => l_ask hx hL hI hc nx, fun _ => l_image hx hL hI hc nx, fun _ => l_back hx hL hI hc nx, fun _ => l_about hx hL hI hc nx, fun _ _ _ _ _ _ _ _ _ _ _ _ _ _ _ _ _ _ _ _ _ _ _ _ _ _ _ _ _ _ _ _ _ _ _ _ _ _ _ _ _ _ _ _ _ _ _ _ _ _ _ _ _ _ => nx m sk⟩
end LawLoop
