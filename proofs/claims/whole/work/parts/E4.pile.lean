/-! the reading of a formula as a machine with a pile of signs -/
noncomputable def bdF (T : Int → Int) (N p : Int) : Int × Int := (if kd T N p = 1 then 1 else 2, plc T N p)
def rkF (k : Int) : Int := if k = 109 then 2 else if k = 108 then 1 else if k = 60 ∨ k = 62 ∨ k = 61 then 4 else if k = 43 ∨ k = 45 then 5 else if k = 42 ∨ k = 47 ∨ k = 37 then 6 else 0
def sgF (k : Int) : Int := if k = 109 then 10011 else if k = 108 then 10012 else if k = 60 then 10013 else if k = 62 then 10014 else if k = 61 then 10015 else if k = 43 then 10016 else if k = 45 then 10017 else if k = 42 then 10018 else if k = 47 then 10019 else 10020
noncomputable def usF (T : Int → Int) (N p : Int) : Int := if kd T N p = 3 then vl T N p else if kd T N p = 111 then 10000 else if kd T N p = 112 then 10001 else if kd T N p = 113 then 10002 else if kd T N p = 114 then 10003 else -1
abbrev Pile := List (Int × Int)
abbrev Rs := (Int × Int) ⊕ (Int × Int × List Int)
/-- how deep within nots and brackets -/
def wnF : Pile → Int
  | [] => 0
  | e :: r => (if e.1 = 3 ∨ e.1 = 7 then 1 else 0) + wnF r
/-- whether a relation stands in the sum that is read -/
def cmpd : Pile → Prop
  | [] => False
  | e :: r => ((e.1 = 5 ∨ e.1 = 6) ∧ cmpd r) ∨ e.1 = 4
def tpF : Pile → Int
  | [] => 0
  | e :: _ => e.1
def En (T : Int → Int) (N : Int) : Nat → Bool → Pile → Int → Int → List Int → Rs → Prop
  | 0, _, _, _, _, _, _ => False
  | k + 1, true, S, p, u, cs, R =>
    (kd T N p = 110 ∧ (tpF S ≤ 3 ∨ 7 ≤ tpF S) ∧ wnF S = 7 ∧ R = .inl (2, plc T N p)) ∨
    (kd T N p = 110 ∧ (tpF S ≤ 3 ∨ 7 ≤ tpF S) ∧ wnF S ≠ 7 ∧ En T N k true ((3, 10010) :: S) (en T N p) u cs R) ∨
    (kd T N p = 110 ∧ ¬ (tpF S ≤ 3 ∨ 7 ≤ tpF S) ∧ R = .inl (2, plc T N p)) ∨
    (kd T N p = 40 ∧ (wnF S = 7 ∨ 30 ≤ u) ∧ R = .inl (2, plc T N p)) ∨
    (kd T N p = 40 ∧ ¬ (wnF S = 7 ∨ 30 ≤ u) ∧ En T N k true ((7, 10010) :: S) (en T N p) (u + 1) cs R) ∨
    (kd T N p ≠ 110 ∧ kd T N p ≠ 40 ∧ usF T N p = -1 ∧ R = .inl (bdF T N p)) ∨
    (usF T N p ≠ -1 ∧ 30 ≤ u ∧ R = .inl (2, plc T N p)) ∨
    (usF T N p ≠ -1 ∧ ¬ 30 ≤ u ∧ En T N k false S (en T N p) (u + 1) (cs ++ [usF T N p]) R)
  | _ + 1, false, [], p, u, cs, R => R = .inr (p, u, cs)
  | k + 1, false, e :: S, p, u, cs, R =>
    (rkF (kd T N p) = 4 ∧ cmpd (e :: S) ∧ R = .inl (2, plc T N p)) ∨
    (¬ (rkF (kd T N p) = 4 ∧ cmpd (e :: S)) ∧ (e.1 ≤ 6 ∧ rkF (kd T N p) ≤ e.1) ∧ En T N k false S p u (cs ++ [e.2]) R) ∨
    (¬ (rkF (kd T N p) = 4 ∧ cmpd (e :: S)) ∧ ¬ (e.1 ≤ 6 ∧ rkF (kd T N p) ≤ e.1) ∧ 0 < rkF (kd T N p) ∧ En T N k true ((rkF (kd T N p), sgF (kd T N p)) :: e :: S) (en T N p) u cs R) ∨
    (¬ e.1 ≤ 6 ∧ rkF (kd T N p) = 0 ∧ e.1 = 7 ∧ kd T N p = 41 ∧ En T N k false S (en T N p) u cs R) ∨
    (¬ e.1 ≤ 6 ∧ rkF (kd T N p) = 0 ∧ e.1 = 7 ∧ kd T N p ≠ 41 ∧ R = .inl (bdF T N p)) ∨
    (¬ e.1 ≤ 6 ∧ rkF (kd T N p) = 0 ∧ e.1 ≠ 7 ∧ En T N k false S p u cs R)
/-- what is read ends so -/
def Eo (T : Int → Int) (N : Int) (w : Bool) (S : Pile) (p u : Int) (cs : List Int) (R : Rs) : Prop := ∃ k, En T N k w S p u cs R
theorem wnF_nonneg : ∀ S : Pile, 0 ≤ wnF S
  | [] => Int.le_refl 0
  | e :: r => by
    have := wnF_nonneg r
    show 0 ≤ (if e.1 = 3 ∨ e.1 = 7 then (1 : Int) else 0) + wnF r
    split <;> omega
section Machine
variable {T : Int → Int} {N : Int} {S : Pile} {p u : Int} {cs : List Int} {R : Rs} {e : Int × Int}
theorem Eo.not (h1 : kd T N p = 110) (h2 : tpF S ≤ 3 ∨ 7 ≤ tpF S) (h3 : wnF S ≠ 7) (h : Eo T N true ((3, 10010) :: S) (en T N p) u cs R) : Eo T N true S p u cs R := by
  obtain ⟨k, h⟩ := h
  exact ⟨k + 1, Or.inr (Or.inl ⟨h1, h2, h3, h⟩)⟩
theorem Eo.not_deep (h1 : kd T N p = 110) (h2 : tpF S ≤ 3 ∨ 7 ≤ tpF S) (h3 : wnF S = 7) : Eo T N true S p u cs (.inl (2, plc T N p)) := ⟨1, Or.inl ⟨h1, h2, h3, rfl⟩⟩
theorem Eo.not_bad (h1 : kd T N p = 110) (h2 : ¬ (tpF S ≤ 3 ∨ 7 ≤ tpF S)) : Eo T N true S p u cs (.inl (2, plc T N p)) := ⟨1, Or.inr (Or.inr (Or.inl ⟨h1, h2, rfl⟩))⟩
theorem Eo.par_bad (h1 : kd T N p = 40) (h2 : wnF S = 7 ∨ 30 ≤ u) : Eo T N true S p u cs (.inl (2, plc T N p)) := ⟨1, Or.inr (Or.inr (Or.inr (Or.inl ⟨h1, h2, rfl⟩)))⟩
theorem Eo.par (h1 : kd T N p = 40) (h2 : ¬ (wnF S = 7 ∨ 30 ≤ u)) (h : Eo T N true ((7, 10010) :: S) (en T N p) (u + 1) cs R) : Eo T N true S p u cs R := by
  obtain ⟨k, h⟩ := h
  exact ⟨k + 1, Or.inr (Or.inr (Or.inr (Or.inr (Or.inl ⟨h1, h2, h⟩))))⟩
theorem Eo.none (h1 : kd T N p ≠ 110) (h2 : kd T N p ≠ 40) (h3 : usF T N p = -1) : Eo T N true S p u cs (.inl (bdF T N p)) := ⟨1, Or.inr (Or.inr (Or.inr (Or.inr (Or.inr (Or.inl ⟨h1, h2, h3, rfl⟩)))))⟩
theorem Eo.full (h1 : usF T N p ≠ -1) (h2 : 30 ≤ u) : Eo T N true S p u cs (.inl (2, plc T N p)) := ⟨1, Or.inr (Or.inr (Or.inr (Or.inr (Or.inr (Or.inr (Or.inl ⟨h1, h2, rfl⟩))))))⟩
theorem Eo.unit (h1 : usF T N p ≠ -1) (h2 : ¬ 30 ≤ u) (h : Eo T N false S (en T N p) (u + 1) (cs ++ [usF T N p]) R) : Eo T N true S p u cs R := by
  obtain ⟨k, h⟩ := h
  exact ⟨k + 1, Or.inr (Or.inr (Or.inr (Or.inr (Or.inr (Or.inr (Or.inr ⟨h1, h2, h⟩))))))⟩
theorem Eo.done : Eo T N false [] p u cs (.inr (p, u, cs)) := ⟨1, rfl⟩
theorem Eo.twice (h1 : rkF (kd T N p) = 4) (h2 : cmpd (e :: S)) : Eo T N false (e :: S) p u cs (.inl (2, plc T N p)) := ⟨1, Or.inl ⟨h1, h2, rfl⟩⟩
theorem Eo.pop (h1 : ¬ (rkF (kd T N p) = 4 ∧ cmpd (e :: S))) (h2 : e.1 ≤ 6 ∧ rkF (kd T N p) ≤ e.1) (h : Eo T N false S p u (cs ++ [e.2]) R) : Eo T N false (e :: S) p u cs R := by
  obtain ⟨k, h⟩ := h
  exact ⟨k + 1, Or.inr (Or.inl ⟨h1, h2, h⟩)⟩
theorem Eo.push (hS : S ≠ []) (h1 : ¬ (rkF (kd T N p) = 4 ∧ cmpd S)) (h2 : ¬ (tpF S ≤ 6 ∧ rkF (kd T N p) ≤ tpF S)) (h3 : 0 < rkF (kd T N p)) (h : Eo T N true ((rkF (kd T N p), sgF (kd T N p)) :: S) (en T N p) u cs R) : Eo T N false S p u cs R := by
  obtain ⟨k, h⟩ := h
  match S, hS with
  | e :: S, _ => exact ⟨k + 1, Or.inr (Or.inr (Or.inl ⟨h1, h2, h3, h⟩))⟩
theorem Eo.close (h1 : e.1 = 7) (h2 : kd T N p = 41) (h : Eo T N false S (en T N p) u cs R) : Eo T N false (e :: S) p u cs R := by
  obtain ⟨k, h⟩ := h
  exact ⟨k + 1, Or.inr (Or.inr (Or.inr (Or.inl ⟨by omega, by rw [h2]; decide, h1, h2, h⟩)))⟩
theorem Eo.unclosed (h1 : e.1 = 7) (h2 : kd T N p ≠ 41) (h3 : rkF (kd T N p) = 0) : Eo T N false (e :: S) p u cs (.inl (bdF T N p)) := ⟨1, Or.inr (Or.inr (Or.inr (Or.inr (Or.inl ⟨by omega, h3, h1, h2, rfl⟩))))⟩
theorem Eo.all (h1 : e.1 = 8) (h3 : rkF (kd T N p) = 0) (h : Eo T N false S p u cs R) : Eo T N false (e :: S) p u cs R := by
  obtain ⟨k, h⟩ := h
  exact ⟨k + 1, Or.inr (Or.inr (Or.inr (Or.inr (Or.inr ⟨by omega, h3, by omega, h⟩))))⟩
theorem rkF_rng (k : Int) : 0 ≤ rkF k ∧ rkF k ≤ 6 ∧ rkF k ≠ 3 ∧ (0 < rkF k → 10011 ≤ sgF k ∧ sgF k ≤ 10020) := by
  unfold rkF sgF
  refine ⟨?_, ?_, ?_, fun h => ?_⟩
  · repeat' split
    all_goals omega
  · repeat' split
    all_goals omega
  · repeat' split
    all_goals omega
  · repeat' split
    all_goals omega
end Machine
