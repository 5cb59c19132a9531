/-! behind a unit, by the reference -/
section BehM
variable {l : Launch} {G : GT} {d : Nat} {m : MM} {T : Int → Int} {N p r u : Int} {cs : List Int} {S : Pile} {R : Rs} {k : Nat}
theorem cOf_sg {x : Int} (h : rkF x = 4 ∨ rkF x = 5 ∨ rkF x = 6) : x ∈ SGN ∧ cOf (sgF x) = x := by
  have hx : x = 60 ∨ x = 62 ∨ x = 61 ∨ x = 43 ∨ x = 45 ∨ x = 42 ∨ x = 47 ∨ x = 37 := by
    unfold rkF at h
    by_cases q1 : x = 109
    · rw [if_pos q1] at h; omega
    · rw [if_neg q1] at h
      by_cases q2 : x = 108
      · rw [if_pos q2] at h; omega
      · rw [if_neg q2] at h
        by_cases q3 : x = 60 ∨ x = 62 ∨ x = 61
        · omega
        · rw [if_neg q3] at h
          by_cases q4 : x = 43 ∨ x = 45
          · omega
          · rw [if_neg q4] at h
            by_cases q5 : x = 42 ∨ x = 47 ∨ x = 37
            · omega
            · rw [if_neg q5] at h; omega
  rcases hx with rfl | rfl | rfl | rfl | rfl | rfl | rfl | rfl <;> decide
theorem rkF_and {x : Int} : (rkF x = 2 → x = 109) ∧ (rkF x = 1 → x = 108) := by
  unfold rkF
  refine ⟨fun h => ?_, fun h => ?_⟩
  · by_cases q1 : x = 109
    · exact q1
    · rw [if_neg q1] at h
      exfalso
      split at h
      · omega
      · split at h
        · omega
        · split at h
          · omega
          · split at h <;> omega
  · by_cases q1 : x = 109
    · rw [if_pos q1] at h; omega
    · rw [if_neg q1] at h
      by_cases q2 : x = 108
      · exact q2
      · rw [if_neg q2] at h
        exfalso
        split at h
        · omega
        · split at h
          · omega
          · split at h <;> omega
theorem wn_push {x y : Int} {S : Pile} (h3 : x ≠ 3) (h7 : x ≠ 7) : wnF ((x, y) :: S) = wnF S := by
  show (if x = 3 ∨ x = 7 then 1 else 0) + wnF S = wnF S
  rw [if_neg (by omega)]; omega
theorem IvM.push {x y : Int} {S : Pile} (h : IvM false S u cs) (hS : S ≠ []) (hx : 1 ≤ x ∧ x ≤ 6 ∧ x ≠ 3) (hy : 10011 ≤ y ∧ y ≤ 10020) (ht : ¬ (tpF S ≤ 6 ∧ x ≤ tpF S)) : IvM true ((x, y) :: S) u cs := by
  obtain ⟨st, w7, u0, u30, hP⟩ := h
  have hP : (cs.length : Int) + opn S ≤ 9 * u + 0 := hP
  have hw := wn_push (x := x) (y := y) (S := S) hx.2.2 (by omega)
  have hn := wnF_nonneg S
  refine ⟨⟨⟨hx.1, by show x ≤ 8; omega⟩, fun _ => ⟨by show 10010 ≤ y; omega, hy.2⟩, ?_, ⟨fun q => ?_, fun q => absurd q hS⟩, st⟩, by rw [hw]; exact w7, u0, u30, ?_⟩
  · have q : tpF S < x ∨ 7 ≤ tpF S := by omega
    exact Or.inr (Or.inr (Or.inr q))
  · have q' : x = 8 := q
    omega
  · rw [hw]
    show (cs.length : Int) + ((if x ≤ 6 then 1 else 0) + opn S) ≤ 9 * u + (1 + wnF S)
    rw [if_pos hx.2.1]; omega
set_option maxHeartbeats 4000000 in
theorem c_behindUnit (h : FmS T N r false S p u cs m) (hS : S ≠ []) (hE : En T N (k + 1) false S p u cs R) : CI l G Y_M_behindUnit (d + 3) [.inr (.inr 70)] m (NxM T N r k R m) := by
  have hC0 := h.1
  have hT0 := hC0.1
  have hrk := rkF_rng (kd T N p)
  have h456' : ∀ {x sg : Int}, rkF (kd T N p) = x → sgF (kd T N p) = sg → x = 4 ∨ x = 5 ∨ x = 6 → kd T N p ∈ SGN ∧ cOf sg = kd T N p := fun h1 h2 h => by
    rw [← h1] at h
    rw [← h2]
    exact cOf_sg h
  have hx1 : ∀ {x sg : Int}, rkF (kd T N p) = x → sgF (kd T N p) = sg → (x = 1 → sg = 10012) ∧ (x = 2 → sg = 10011) := fun h1 h2 => by
    refine ⟨fun h => ?_, fun h => ?_⟩
    · rw [← h2, rkF_and.2 (h1.trans h)]; decide
    · rw [← h2, rkF_and.1 (h1.trans h)]; decide
  have hk1 : ∀ {x : Int}, rkF (kd T N p) = x → x = 4 → kd T N p ≠ 1 := fun h1 h g => by
    rw [← h1, g] at h
    exact absurd h (by decide)
  obtain ⟨x, hx⟩ : ∃ x, rkF (kd T N p) = x := ⟨_, rfl⟩
  obtain ⟨sg, hsg⟩ : ∃ sg, sgF (kd T N p) = sg := ⟨_, rfl⟩
  have h456 := h456' hx hsg
  have hx1 := hx1 hx hsg
  have hk1 := hk1 hx
  clear h456'
  rw [hx, hsg] at hrk
  generalize hQ : NxM T N r k R m = Q
  -- behind the pops
  have last : ∀ (j : Nat) (e : Int × Int) (S : Pile) (cs : List Int) (m1 : MM), j ≤ k → En T N (j + 1) false (e :: S) p u cs R → ¬ (x = 4 ∧ cmpd (e :: S)) → ¬ (e.1 ≤ 6 ∧ x ≤ e.1) → FmS T N r false (e :: S) p u cs m1 → FrM r m m1 → Wq l G false Y_M_behindUnit (d + 3) (QI Q) 104 [(0, .inr (.inr 70)), (1, .inl (x))] [] m1 := by
    intro j e S cs m1 hj hE hcm hpop hF hFr
    obtain ⟨En1, En2, En3, En4, En5⟩ := hE.beh
    rw [hx] at En1 En2 En4 En5
    rw [hx, hsg] at En3
    have htop := hF.top (by simp)
    obtain ⟨hC, hP, hI⟩ := hF
    have hI0 := hI
    have hIl := hI.len
    have hlc : (((e :: S).length : Nat) : Int) = S.length + 1 := by rw [List.length_cons]; omega
    have hlen := hP.1
    rw [hlc] at hlen hIl
    have hwn := hP.2.2
    have hpi := hP.2.1
    obtain ⟨hst, hw7, u0, u30, hPhi⟩ := hI
    have hPhi : (cs.length : Int) + opn (e :: S) ≤ 9 * u + 0 := hPhi
    have hT := hC.1
    have h4 := hC.2.1
    have hwnS := wnF_nonneg S
    have hwe : wnF (e :: S) = (if e.1 = 3 ∨ e.1 = 7 then 1 else 0) + wnF S := rfl
    have hoe : opn (e :: S) = (if e.1 ≤ 6 then 1 else 0) + opn S := rfl
    obtain ⟨st1, st2, st3, st4, st5⟩ := hst
    obtain ⟨pi1, pi2, pi3⟩ := hpi
    have hl1 : inR (m1 70 32 - 1) := by clear En1 En2 En3 En4 En5 hE hcm hpop st2 pi2; rw [hlen]; unfold inR; omega
    refine s_M_behindUnit_104 _ (fun _ _ => ⟨fun c0 => ⟨hl1, fun m8 e8 => ?_⟩, fun c0 => ?_⟩)
    · have rk0 : x = 0 := by clear En1 En2 En3 En4 En5 hE hcm hpop st2 pi2; omega
      have e6 : ¬ e.1 ≤ 6 := fun q => hpop ⟨q, by clear En1 En2 En3 En4 En5 hE hcm hpop st2 pi2; omega⟩
      have E5 := En5 e6 rk0
      have E4 := En4 e6 rk0
      clear En1 En2 En3 En4 En5 hE hcm hpop st2 pi2
      have k32 : m8 70 32 = S.length := by rw [e8, up_at, hlen]; omega
      have k87 : m8 87 (m8 70 32) = e.1 := by rw [k32, e8, up_ne (by decide)]; exact pi1
      have C8 : CoM T N r p u cs m8 := by rw [e8]; exact hC.put (Or.inr rfl)
      have P8 : PiM S m8 := by rw [e8]; exact pi3.congr (fun i _ _ => ⟨by rw [up_ne (by decide)], by rw [up_ne (by decide)]⟩)
      have F8 : FrM r m m8 := hFr.tr (by rw [e8]; exact FrM.put (by decide))
      have k31 : m8 70 31 = wnF (e :: S) := by rw [e8, up_off (by decide)]; exact hwn
      rw [k87, k32]
      refine ⟨by clear E4 E5; omega, fun c7 => ?_, fun c7 => ?_⟩
      · rw [← hQ]
        refine ⟨F8, Or.inr ⟨j, false, S, p, u, cs, hj, rfl, (fun q => absurd q (by decide)), E5 c7, C8, ⟨k32, P8, ?_⟩, st5, ?_, u0, u30, ?_⟩⟩
        · clear E4 E5; rw [k31, hwe, if_neg (by omega)]; omega
        · clear E4 E5; rw [hwe, if_neg (by omega)] at hw7; omega
        · clear E4 E5
          rw [hoe, if_neg e6] at hPhi
          show (cs.length : Int) + opn S ≤ 9 * u + 0
          omega
      · have e7 : e.1 = 7 := Classical.not_not.mp c7
        obtain ⟨En4a, En4b⟩ := E4 e7
        clear E4 E5
        rw [hwe, if_pos (Or.inr e7)] at k31 hw7
        refine ⟨by rw [k31]; unfold inR; omega, fun m20 e20 => ?_⟩
        have C20 : CoM T N r p u cs m20 := by rw [e20]; exact C8.put (Or.inl rfl)
        have P20 : PiM S m20 := by rw [e20]; exact P8.congr (fun i _ _ => ⟨by rw [up_ne (by decide)], by rw [up_ne (by decide)]⟩)
        have F20 : FrM r m m20 := F8.tr (by rw [e20]; exact FrM.put (by decide))
        have k31' : m20 70 31 = wnF S := by rw [e20, up_at, k31]; omega
        have k32' : m20 70 32 = S.length := by rw [e20, up_off (by decide)]; exact k32
        refine ⟨d + 1, _, by omega, c_signIs C20.1 (by decide), fun z m30 hz _ _ => ?_⟩
        obtain ⟨hz, rfl⟩ := hz
        refine ⟨d + 2, _, by omega, c_must C20.1.ts, fun m41 hm _ => ?_⟩
        obtain ⟨hm1, hm2⟩ := hm.2 C20.2.1
        rw [← hQ]
        by_cases k41 : kd T N p = 41
        · have g := hm2 (fun q => hz.mp q k41)
          refine ⟨F20.tr g.frm, Or.inr ⟨j, false, S, en T N p, u, cs, hj, rfl, (fun q => absurd q (by decide)), En4a k41, C20.go g, PlM.go ⟨k32', P20, k31'⟩ g, st5, by omega, u0, u30, ?_⟩⟩
          rw [hoe, if_neg e6] at hPhi
          show (cs.length : Int) + opn S ≤ 9 * u + 0
          omega
        · obtain ⟨g1, g2⟩ := C20.1.mis C20.2.1 (hm1 (hz.mpr k41))
          exact ⟨F20.tr (FrM.of g2 (by decide)), Or.inl ⟨_, En4b k41, g1, (C20.1.fr g2 (by decide) (by decide)).ts⟩⟩
    · -- a sign is laid
      have rkp : 0 < x := by clear En1 En2 En3 En4 En5 hE hcm hpop st2 pi2; omega
      have hE3 := En3 hcm hpop rkp
      have hpi0 : PiM (e :: S) m1 := ⟨pi1, pi2, pi3⟩
      clear En1 En2 En3 En4 En5 hE hcm st2 pi2
      have pl0 : 0 ≤ m1 70 32 ∧ m1 70 32 < 90 := by omega
      have key : ∀ y m2, PuM (x) y m1 m2 → y = cOf (sg) → ∀ m3, GoP N m2 m3 → Q 1 m3 := by
        intro y m2 e2 hy m3 g3
        obtain ⟨P4, P5, P6⟩ := PiM.push (e := (x, sg)) (S := e :: S) hpi0 hP.1 e2 rfl (fun _ => hy)
        have hi := IvM.push hI0 (by simp) ⟨by omega, hrk.2.1, hrk.2.2.1⟩ (hrk.2.2.2 rkp) hpop
        have hw := wn_push (x := x) (y := sg) (S := e :: S) hrk.2.2.1 (by omega)
        rw [← hQ]
        exact ⟨hFr.tr (e2.frm.tr g3.frm), Or.inr ⟨j, true, _, _, _, _, hj, rfl, (fun _ => by simp), hE3, (hC.push e2).go g3, PlM.go ⟨P5, P4, by rw [P6, hwn, hw]⟩ g3, hi⟩⟩
      have tsP : ∀ {x y m2}, PuM x y m1 m2 → TsM (tx m2) N m2 := fun e2 => (hC.push e2).1.ts
      refine ⟨fun c2 => ⟨fun c1 => ?_, fun c1 => ?_⟩, fun c2 => ?_⟩
      · obtain ⟨sg1, sg2⟩ := h456 (by clear h456 hk1 hx1; omega)
        have hat := (hT.sign sg1).mpr rfl
        have hlt : m1 70 6 < N := by
          rw [hT.at]
          exact kd_lt (by have := sgn_rng sg1; omega)
        have h0 : 0 ≤ m1 70 6 := by
          have := hT.rng.1
          have := hT.2.2.2.1
          rw [hT.at]; omega
        refine ⟨d, _, by omega, c_signM2 (N := N) h0 ⟨hT.2.1, hT.2.2.1⟩, fun z m2 hz _ _ => ?_⟩
        obtain ⟨z1, -, rfl⟩ := hz
        refine ⟨d, _, by omega, c_pushE pl0, fun m2 e2 _ => ?_⟩
        refine ⟨d + 1, _, by omega, c_goOnM2 (tsP e2), fun m3 g3 _ => key z m2 e2 ?_ m3 g3⟩
        rw [z1 hlt, hat.2, sg2]
      · have r1 : x = 1 := Classical.not_not.mp c1
        refine ⟨d, _, by omega, c_pushE pl0, fun m2 e2 _ => ?_⟩
        refine ⟨d + 1, _, by omega, c_goOnM2 (tsP e2), fun m3 g3 _ => key 124 m2 e2 ?_ m3 g3⟩
        rw [hx1.1 r1]; decide
      · have r2 : x = 2 := Classical.not_not.mp c2
        refine ⟨d, _, by omega, c_pushE pl0, fun m2 e2 _ => ?_⟩
        refine ⟨d + 1, _, by omega, c_goOnM2 (tsP e2), fun m3 g3 _ => key 38 m2 e2 ?_ m3 g3⟩
        rw [hx1.2 r2]; decide
  -- the pops
  have loop : ∀ (j : Nat) (S : Pile) (cs : List Int) (m1 : MM), S ≠ [] → j ≤ k → En T N (j + 1) false S p u cs R → ¬ (x = 4 ∧ cmpd S) → FmS T N r false S p u cs m1 → FrM r m m1 → Wq l G false Y_M_behindUnit (d + 3) (QI Q) 23 [(0, .inr (.inr 70)), (1, .inl (x))] [] m1 := by
    intro j
    induction j with
    | zero =>
      intro S cs m1 hS hj hE hcm hF hFr
      match S, hS with
      | e :: S, _ =>
        obtain ⟨En1, En2, En3, En4, En5⟩ := hE.beh
        rw [hx] at En1 En2 En4 En5
        rw [hx, hsg] at En3
        have htop := hF.top (by simp)
        have et : tpF (e :: S) = e.1 := rfl
        rw [et] at htop
        have np : ¬ (e.1 ≤ 6 ∧ x ≤ e.1) := fun q => En2 hcm q
        have hl := last 0 e S cs m1 hj hE hcm np hF hFr
        clear En1 En2 En3 En4 En5 hE hcm last h456 hx1 hk1
        refine s_M_behindUnit_23 _ (fun _ _ => ?_)
        rw [htop.1]
        exact ⟨by unfold inR; omega, ⟨by omega, by omega⟩, fun _ => hl, fun c => ⟨by unfold inR; omega, ⟨by omega, by omega⟩, fun _ => hl, fun c2 => absurd ⟨by omega, by omega⟩ np⟩⟩
    | succ j ih =>
      intro S cs m1 hS hj hE hcm hF hFr
      match S, hS with
      | e :: S, _ =>
        obtain ⟨En1, En2, En3, En4, En5⟩ := hE.beh
        rw [hx] at En1 En2 En4 En5
        rw [hx, hsg] at En3
        have htop := hF.top (by simp)
        have et : tpF (e :: S) = e.1 := rfl
        rw [et] at htop
        have hl : ¬ (e.1 ≤ 6 ∧ x ≤ e.1) → _ := fun np => last (j + 1) e S cs m1 hj hE hcm np hF hFr
        have E2 := En2 hcm
        have hcm0 : x = 4 → ¬ cmpd (e :: S) := fun q g => hcm ⟨q, g⟩
        clear En1 En2 En3 En4 En5 hE hcm last h456 hx1 hk1
        obtain ⟨ht1, ht2, ht3⟩ := htop
        have o1 : inR (m1 70 32 - 1) ∧ (0 ≤ m1 70 32 - 1 ∧ m1 70 32 - 1 < (90 : Int)) := by clear hl E2 ih hcm0; unfold inR; omega
        refine s_M_behindUnit_23 _ (fun _ _ => ?_)
        rw [ht1]
        refine ⟨o1.1, o1.2, fun c => hl (by clear hl E2 ih hcm0; omega), fun c => ⟨o1.1, o1.2, fun c2 => hl (by clear hl E2 ih hcm0; omega), fun c2 => ⟨o1.1, fun m8 e8 => ?_⟩⟩⟩
        have hpop : e.1 ≤ 6 ∧ x ≤ e.1 := by clear hl E2 ih hcm0; omega
        have hE2 := E2 hpop
        clear hl E2
        obtain ⟨hC, hP, hI⟩ := hF
        have hIl := hI.len
        have hlc : (((e :: S).length : Nat) : Int) = S.length + 1 := by rw [List.length_cons]; omega
        have hlen := hP.1
        rw [hlc] at hlen hIl
        have hwn := hP.2.2
        obtain ⟨pi1, pi2, pi3⟩ := hP.2.1
        obtain ⟨⟨st1, st2, st3, st4, st5⟩, hw7, u0, u30, hPhi⟩ := hI
        have hPhi : (cs.length : Int) + opn (e :: S) ≤ 9 * u + 0 := hPhi
        have hwnS := wnF_nonneg S
        have hopS := opn_nonneg S
        have hwe : wnF (e :: S) = (if e.1 = 3 ∨ e.1 = 7 then 1 else 0) + wnF S := rfl
        have hoe : opn (e :: S) = (if e.1 ≤ 6 then 1 else 0) + opn S := rfl
        rw [hoe, if_pos hpop.1] at hPhi
        have hS' : S ≠ [] := fun q => by have := st4.mpr q; omega
        have hcm' : ¬ (x = 4 ∧ cmpd S) := fun q => by
          by_cases e4 : e.1 = 4
          · exact hcm0 q.1 (Or.inr e4)
          · have q1 := q.1
            exact hcm0 q.1 (Or.inl ⟨by clear hcm0 ih q st2 pi2; omega, q.2⟩)
        clear hcm0
        have k32 : m8 70 32 = S.length := by rw [e8, up_at, hlen]; omega
        have k87 : m8 87 (m8 70 32) = e.1 := by rw [k32, e8, up_ne (by decide)]; exact pi1
        have k88 : m8 88 (m8 70 32) = cOf e.2 := by rw [k32, e8, up_ne (by decide)]; exact pi2 hpop.1
        have C8 : CoM T N r p u cs m8 := by rw [e8]; exact hC.put (Or.inr rfl)
        have P8 : PiM S m8 := by rw [e8]; exact pi3.congr (fun i _ _ => ⟨by rw [up_ne (by decide)], by rw [up_ne (by decide)]⟩)
        have F8 : FrM r m m8 := hFr.tr (by rw [e8]; exact FrM.put (by decide))
        have k31 : m8 70 31 = wnF (e :: S) := by rw [e8, up_off (by decide)]; exact hwn
        have fin : ∀ m9, CoM T N r p u cs m9 → PlM S m9 → FrM r m m9 → wnF S ≤ 7 → ∀ y m10, EmM (cOf e.2) y m9 m10 → Wq l G false Y_M_behindUnit (d + 3) (QI Q) 23 [(0, .inr (.inr 70)), (1, .inl (x))] [] m10 := by
          intro m9 C9 P9 F9 w7 y m10 e10
          refine ih S (cs ++ [e.2]) m10 hS' (by clear ih hcm' st2 pi2; omega) hE2 hcm' ⟨C9.emit e10 rfl (fun q => by have := st2 hpop.1; clear ih hcm' st2 pi2; omega), P9.emit e10, st5, w7, u0, u30, ?_⟩ (F9.tr (e10.frm C9 (by clear ih hcm' st2 pi2; omega)))
          rw [List.length_append]
          show (((cs.length + 1 : Nat) : Int)) + opn S ≤ 9 * u + 0
          clear ih hcm' st2 pi2
          omega
        clear ih hcm' st2 pi2
        have cd8 : 0 ≤ m8 70 30 ∧ m8 70 30 < 1120 := by
          have := C8.2.2.2.2.1
          have := C8.2.2.1
          omega
        rw [k87]
        refine ⟨by rw [k32]; omega, fun c3 => ⟨by rw [k32]; omega, ?_⟩, fun c3 => ?_⟩
        · rw [hwe, if_neg (by omega)] at k31 hw7
          rw [k88]
          exact ⟨d, _, by omega, c_emit cd8, fun m10 e10 _ => fin m8 C8 ⟨k32, P8, by rw [k31]; omega⟩ F8 (by omega) _ m10 e10⟩
        · have e3 : e.1 = 3 := Classical.not_not.mp c3
          rw [hwe, if_pos (Or.inl e3)] at k31 hw7
          refine ⟨by rw [k31]; unfold inR; omega, fun m9 e9 => ?_⟩
          have C9 : CoM T N r p u cs m9 := by rw [e9]; exact C8.put (Or.inl rfl)
          have P9 : PiM S m9 := by rw [e9]; exact P8.congr (fun i _ _ => ⟨by rw [up_ne (by decide)], by rw [up_ne (by decide)]⟩)
          have F9 : FrM r m m9 := F8.tr (by rw [e9]; exact FrM.put (by decide))
          have k31' : m9 70 31 = wnF S := by rw [e9, up_at, k31]; omega
          have k32' : m9 70 32 = m8 70 32 := by rw [e9, up_off (by decide)]
          have k88' : m9 88 (m9 70 32) = cOf e.2 := by rw [k32', e9, up_ne (by decide)]; exact k88
          have cd9 : 0 ≤ m9 70 30 ∧ m9 70 30 < 1120 := by rw [e9, up_off (by decide)]; exact cd8
          rw [k88']
          exact ⟨by rw [k32', k32]; omega, d, _, by omega, c_emit cd9, fun m10 e10 _ => fin m9 C9 ⟨by rw [k32', k32], P9, k31'⟩ F9 (by omega) _ m10 e10⟩
  refine e_M_behindUnit (fun _ => ⟨d + 2, _, by omega, c_rankHere hT0, fun z m1 hz _ _ => ?_⟩)
  obtain ⟨hz, rfl⟩ := hz
  rw [hx] at hz
  subst hz
  refine ⟨fun c4 => loop k S cs m hS (Nat.le_refl k) hE (fun q => c4 q.1) h FrM.refl, fun c4 => ⟨d, _, by omega, c_isCompared h.2.2.1 h.2.1 (by have := h.2.2.len.1; omega) hS, fun z m1 hz _ _ => ?_⟩⟩
  obtain ⟨hz, rfl⟩ := hz
  have r4 := Classical.not_not.mp c4
  refine ⟨fun q => loop k S cs m hS (Nat.le_refl k) hE (fun g => hz.mp q g.2) h FrM.refl, fun q => ⟨d + 1, _, by omega, c_misplacedM2, fun m1 h1 _ => ?_⟩⟩
  have hcm : cmpd S := Classical.not_not.mp (fun g => q (hz.mpr g))
  obtain ⟨g1, g2⟩ := hT0.mis hC0.2.1 h1
  rw [← hQ]
  refine ⟨FrM.of g2 (by decide), Or.inl ⟨bdF T N p, ?_, g1, (hT0.fr g2 (by decide) (by decide)).ts⟩⟩
  have k1 : kd T N p ≠ 1 := hk1 r4
  match S, hS with
  | e :: S, _ =>
    rw [hE.beh.1 (hx.trans r4) hcm, bdF_ne.2 k1]
end BehM
