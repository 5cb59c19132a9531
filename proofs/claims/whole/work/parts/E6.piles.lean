/-! the reference's formula while it is read: what its rows hold -/
def CdM (base : Int) (cs : List Int) (m : MM) : Prop := ∀ (j : Nat) (s : Int), cs[j]? = some s → m 85 (base + j) = cOf s ∧ (s < 10000 → m 86 (base + j) = s)
def PiM : Pile → MM → Prop
  | [], _ => True
  | e :: S, m => m 87 S.length = e.1 ∧ (e.1 ≤ 6 → m 88 S.length = cOf e.2) ∧ PiM S m
def opn : Pile → Int
  | [] => 0
  | e :: r => (if e.1 ≤ 6 then 1 else 0) + opn r
def stW : Pile → Prop
  | [] => True
  | e :: S => (1 ≤ e.1 ∧ e.1 ≤ 8) ∧ (e.1 ≤ 6 → 10010 ≤ e.2 ∧ e.2 ≤ 10020) ∧ (e.1 = 3 ∨ e.1 = 7 ∨ e.1 = 8 ∨ tpF S < e.1 ∨ 7 ≤ tpF S) ∧ (e.1 = 8 ↔ S = []) ∧ stW S
theorem opn_nonneg : ∀ S : Pile, 0 ≤ opn S
  | [] => Int.le_refl 0
  | e :: r => by
    have := opn_nonneg r
    show 0 ≤ (if e.1 ≤ 6 then (1 : Int) else 0) + opn r
    split <;> omega
theorem stW.tp : ∀ {S : Pile}, stW S → 0 ≤ tpF S ∧ tpF S ≤ 8
  | [], _ => ⟨Int.le_refl 0, by decide⟩
  | e :: _, h => ⟨by have := h.1.1; show 0 ≤ e.1; omega, h.1.2⟩
theorem stW.len : ∀ {S : Pile}, stW S → (S.length : Int) ≤ 7 * wnF S + (if 7 ≤ tpF S then 1 else tpF S + 1)
  | [], _ => by decide
  | e :: S, h => by
    obtain ⟨h1, h2, h3, h4, h5⟩ := h
    have ih := stW.len h5
    have ht := stW.tp h5
    have hn := wnF_nonneg S
    show (((e :: S).length : Nat) : Int) ≤ 7 * ((if e.1 = 3 ∨ e.1 = 7 then 1 else 0) + wnF S) + (if 7 ≤ e.1 then 1 else e.1 + 1)
    rw [List.length_cons]
    by_cases q : e.1 = 8
    · have hS := h4.mp q
      subst hS
      rw [if_neg (by omega), if_pos (by omega)]
      decide
    · by_cases q3 : e.1 = 3 ∨ e.1 = 7
      · rw [if_pos q3]
        split at ih <;> split <;> omega
      · rw [if_neg q3]
        split at ih <;> split <;> omega
def IvM (w : Bool) (S : Pile) (u : Int) (cs : List Int) : Prop := stW S ∧ wnF S ≤ 7 ∧ 0 ≤ u ∧ u ≤ 30 ∧ (cs.length : Int) + opn S ≤ 9 * u + (if w then 1 + wnF S else 0)
theorem IvM.len {w : Bool} {S : Pile} {u : Int} {cs : List Int} (h : IvM w S u cs) : (S.length : Int) ≤ 56 ∧ (cs.length : Int) ≤ 278 := by
  obtain ⟨h1, h2, h3, h4, h5⟩ := h
  have h6 := h1.len
  have h7 := h1.tp
  have h8 := opn_nonneg S
  have h9 := wnF_nonneg S
  refine ⟨?_, ?_⟩
  · split at h6 <;> omega
  · split at h5 <;> omega
/-- what reading a formula leaves alone -/
def FrM (r : Int) (m m' : MM) : Prop := Fro 70 [75, 85, 86, 87, 88] [4, 5, 6, 7, 8, 9, 10, 30, 31, 32, 33] m m' ∧ (∀ i, i ≠ r → m' 75 i = m 75 i) ∧ ∀ j, ¬ (560 * r ≤ j ∧ j < 560 * r + 560) → m' 85 j = m 85 j ∧ m' 86 j = m 86 j
theorem FrM.tr {r : Int} {a b c : MM} (h : FrM r a b) (g : FrM r b c) : FrM r a c := ⟨h.1.tr g.1, fun i hi => (g.2.1 i hi).trans (h.2.1 i hi), fun j hj => ⟨(g.2.2 j hj).1.trans (h.2.2 j hj).1, (g.2.2 j hj).2.trans (h.2.2 j hj).2⟩⟩
theorem FrM.refl {r : Int} {a : MM} : FrM r a a := ⟨⟨fun _ _ _ => rfl, fun _ _ => rfl⟩, fun _ _ => rfl, fun _ _ => ⟨rfl, rfl⟩⟩
theorem FrM.of {r : Int} {a b : MM} {I : List Int} (h : Fro 70 [] I a b) (hI : ∀ i, i ∈ I → i ∈ [(4 : Int), 5, 6, 7, 8, 9, 10, 30, 31, 32, 33]) : FrM r a b := ⟨h.mono (fun _ q => by cases q) hI, fun i _ => by rw [h.1 75 (by simp) (by decide)], fun j _ => ⟨by rw [h.1 85 (by simp) (by decide)], by rw [h.1 86 (by simp) (by decide)]⟩⟩
theorem FrM.put {r i v : Int} {a : MM} (hI : i ∈ [(4 : Int), 5, 6, 7, 8, 9, 10, 30, 31, 32, 33]) : FrM r a (up a 70 i v) := FrM.of (I := [i]) ⟨fun b _ hb => up_ne hb, fun j hj => up_off (fun q => hj (by rw [q]; simp))⟩ (fun j hj => by simp only [List.mem_singleton] at hj; rw [hj]; exact hI)
/-- where it stands and what it has written -/
def CoM (T : Int → Int) (N r p u : Int) (cs : List Int) (m : MM) : Prop := TpM T N p m ∧ m 70 4 = 0 ∧ (m 70 29 = r ∧ 0 ≤ r ∧ r ≤ 1 ∧ m 70 5 = -1) ∧ (m 75 r = u ∧ m 70 33 = u) ∧ m 70 30 = 560 * r + cs.length ∧ CdM (560 * r) cs m
/-- its pile -/
def PlM (S : Pile) (m : MM) : Prop := m 70 32 = S.length ∧ PiM S m ∧ m 70 31 = wnF S
def FmS (T : Int → Int) (N r : Int) (w : Bool) (S : Pile) (p u : Int) (cs : List Int) (m : MM) : Prop := CoM T N r p u cs m ∧ PlM S m ∧ IvM w S u cs
theorem PiM.congr : ∀ {S : Pile} {m m' : MM}, PiM S m → (∀ i, 0 ≤ i → i < S.length → m' 87 i = m 87 i ∧ m' 88 i = m 88 i) → PiM S m'
  | [], _, _, _, _ => trivial
  | e :: S, m, m', h, g => by
    obtain ⟨h1, h2, h3⟩ := h
    have gl := g S.length (by omega) (by rw [List.length_cons]; omega)
    exact ⟨by rw [gl.1]; exact h1, fun q => by rw [gl.2]; exact h2 q, PiM.congr h3 (fun i i0 i1 => g i i0 (by rw [List.length_cons]; omega))⟩
section StM
variable {T : Int → Int} {N r p u : Int} {cs : List Int} {m m' : MM} {S : Pile}
theorem CoM.go (h : CoM T N r p u cs m) (g : GoP N m m') : CoM T N r (en T N p) u cs m' := by
  obtain ⟨h1, h2, h3, h4, h5, h6⟩ := h
  have f := g.1
  refine ⟨h1.go g, by rw [f.2 4 (by decide)]; exact h2, by rw [f.2 29 (by decide), f.2 5 (by decide)]; exact h3, by rw [f.1 75 (by simp) (by decide), f.2 33 (by decide)]; exact h4, by rw [f.2 30 (by decide)]; exact h5, fun j s hs => ?_⟩
  rw [f.1 85 (by simp) (by decide), f.1 86 (by simp) (by decide)]
  exact h6 j s hs
theorem PlM.go (h : PlM S m) (g : GoP N m m') : PlM S m' := by
  have f := g.1
  refine ⟨by rw [f.2 32 (by decide)]; exact h.1, h.2.1.congr (fun i _ _ => ⟨by rw [f.1 87 (by simp) (by decide)], by rw [f.1 88 (by simp) (by decide)]⟩), by rw [f.2 31 (by decide)]; exact h.2.2⟩
theorem GoP.frm (g : GoP N m m') : FrM r m m' := FrM.of g.1 (fun i hi => by simp only [List.mem_cons, List.not_mem_nil, or_false] at hi ⊢; omega)
/-- a sign written -/
def EmM (x y : Int) (m m' : MM) : Prop := m' = up (up (up m 85 (m 70 30) x) 86 (m 70 30) y) 70 30 (m 70 30 + 1)
theorem EmM.fro {x y : Int} (e : EmM x y m m') : Fro 70 [85, 86] [30] m m' := ⟨fun b hb h7 => by
  have e := e
  unfold EmM at e
  rw [e, up_ne h7, up_ne (fun q => hb (by rw [q]; simp)), up_ne (fun q => hb (by rw [q]; simp))], fun i hi => by
  have e := e
  unfold EmM at e
  rw [e, up_off (fun q => hi (by rw [q]; simp)), up_ne (by decide), up_ne (by decide)]⟩
theorem EmM.c85 {x y : Int} (e : EmM x y m m') (j : Int) : m' 85 j = if j = m 70 30 then x else m 85 j := by
  unfold EmM at e
  rw [e, up_ne (show 85 ≠ 70 by decide), up_ne (show 85 ≠ 86 by decide), up_eq]
theorem EmM.c86 {x y : Int} (e : EmM x y m m') (j : Int) : m' 86 j = if j = m 70 30 then y else m 86 j := by
  unfold EmM at e
  rw [e, up_ne (show 86 ≠ 70 by decide), up_eq, up_ne (show 86 ≠ 85 by decide)]
theorem CoM.emit {s x y : Int} (h : CoM T N r p u cs m) (e : EmM x y m m') (hx : x = cOf s) (hy : s < 10000 → y = s) : CoM T N r p u (cs ++ [s]) m' := by
  obtain ⟨h1, h2, h3, h4, h5, h6⟩ := h
  have f := e.fro
  have e' : m' = _ := e
  refine ⟨h1.fr f (by decide) (by decide), by rw [f.2 4 (by decide)]; exact h2, by rw [f.2 29 (by decide), f.2 5 (by decide)]; exact h3, by rw [f.1 75 (by decide) (by decide), f.2 33 (by decide)]; exact h4, ?_, fun j t ht => ?_⟩
  · rw [e', up_at, h5, List.length_append]
    show _ = 560 * r + ((cs.length + 1 : Nat) : Int)
    omega
  · rw [e.c85, e.c86, h5]
    by_cases q : j < cs.length
    · rw [List.getElem?_append_left q] at ht
      have := h6 j t ht
      rw [if_neg (by omega), if_neg (by omega)]
      exact this
    · rw [List.getElem?_append_right (by omega)] at ht
      have hj : j = cs.length := by
        rcases Nat.lt_or_ge (j - cs.length) 1 with g | g
        · omega
        · rw [List.getElem?_eq_none (by simpa using g)] at ht; cases ht
      subst hj
      rw [Nat.sub_self] at ht
      have ht' : s = t := by simpa using ht
      subst ht'
      rw [if_pos rfl, if_pos rfl]
      exact ⟨hx, hy⟩
theorem EmM.frm {x y : Int} (e : EmM x y m m') (h : CoM T N r p u cs m) (hl : (cs.length : Int) ≤ 559) : FrM r m m' := by
  have f := e.fro
  have e' : m' = _ := e
  have h5 := h.2.2.2.2.1
  refine ⟨f.mono (by simp) (by simp), fun i _ => by rw [f.1 75 (by decide) (by decide)], fun j hj => ?_⟩
  have hr := h.2.2.1.2
  rw [e.c85, e.c86, h5, if_neg (by omega), if_neg (by omega)]
  exact ⟨rfl, rfl⟩
theorem PlM.emit {x y : Int} (h : PlM S m) (e : EmM x y m m') : PlM S m' := by
  have f := e.fro
  exact ⟨by rw [f.2 32 (by decide)]; exact h.1, h.2.1.congr (fun i _ _ => ⟨by rw [f.1 87 (by decide) (by decide)], by rw [f.1 88 (by decide) (by decide)]⟩), by rw [f.2 31 (by decide)]; exact h.2.2⟩
/-- laid on the pile -/
def PuM (x y : Int) (m m' : MM) : Prop := m' = up (up (up m 87 (m 70 32) x) 88 (m 70 32) y) 70 32 (m 70 32 + 1)
theorem PuM.fro {x y : Int} (e : PuM x y m m') : Fro 70 [87, 88] [32] m m' := ⟨fun b hb h7 => by
  have e := e
  unfold PuM at e
  rw [e, up_ne h7, up_ne (fun q => hb (by rw [q]; simp)), up_ne (fun q => hb (by rw [q]; simp))], fun i hi => by
  have e := e
  unfold PuM at e
  rw [e, up_off (fun q => hi (by rw [q]; simp)), up_ne (by decide), up_ne (by decide)]⟩
theorem PuM.frm {x y : Int} (e : PuM x y m m') : FrM r m m' := by
  have f := e.fro
  exact ⟨f.mono (by simp) (by simp), fun i _ => by rw [f.1 75 (by decide) (by decide)], fun j _ => ⟨by rw [f.1 85 (by decide) (by decide)], by rw [f.1 86 (by decide) (by decide)]⟩⟩
theorem CoM.push {x y : Int} (h : CoM T N r p u cs m) (e : PuM x y m m') : CoM T N r p u cs m' := by
  obtain ⟨h1, h2, h3, h4, h5, h6⟩ := h
  have f := e.fro
  refine ⟨h1.fr f (by decide) (by decide), by rw [f.2 4 (by decide)]; exact h2, by rw [f.2 29 (by decide), f.2 5 (by decide)]; exact h3, by rw [f.1 75 (by decide) (by decide), f.2 33 (by decide)]; exact h4, by rw [f.2 30 (by decide)]; exact h5, fun j s hs => ?_⟩
  rw [f.1 85 (by decide) (by decide), f.1 86 (by decide) (by decide)]
  exact h6 j s hs
theorem PuM.c87 {x y : Int} (e : PuM x y m m') (j : Int) : m' 87 j = if j = m 70 32 then x else m 87 j := by
  unfold PuM at e
  rw [e, up_ne (show 87 ≠ 70 by decide), up_ne (show 87 ≠ 88 by decide), up_eq]
theorem PuM.c88 {x y : Int} (e : PuM x y m m') (j : Int) : m' 88 j = if j = m 70 32 then y else m 88 j := by
  unfold PuM at e
  rw [e, up_ne (show 88 ≠ 70 by decide), up_eq, up_ne (show 88 ≠ 87 by decide)]
theorem PiM.push {x y : Int} {e : Int × Int} (h : PiM S m) (hl : m 70 32 = S.length) (g : PuM x y m m') (hx : x = e.1) (hy : e.1 ≤ 6 → y = cOf e.2) : PiM (e :: S) m' ∧ m' 70 32 = (e :: S).length ∧ m' 70 31 = m 70 31 := by
  have f := g.fro
  have g' : m' = _ := g
  have hlen : (((e :: S).length : Nat) : Int) = S.length + 1 := by rw [List.length_cons]; omega
  refine ⟨⟨?_, fun q => ?_, h.congr (fun i i0 i1 => ?_)⟩, ?_, f.2 31 (by decide)⟩
  · rw [g.c87, hl, if_pos rfl]; exact hx
  · rw [g.c88, hl, if_pos rfl]; exact hy q
  · rw [g.c87, g.c88, hl, if_neg (by omega), if_neg (by omega)]
    exact ⟨rfl, rfl⟩
  · rw [g', up_at, hl, hlen]
/-- a field of its own set -/
theorem CoM.put {i v : Int} (h : CoM T N r p u cs m) (hi : i = 31 ∨ i = 32) : CoM T N r p u cs (up m 70 i v) := by
  obtain ⟨h1, h2, h3, h4, h5, h6⟩ := h
  have f : Fro 70 [] [31, 32] m (up m 70 i v) := ⟨fun b _ hb => up_ne hb, fun j hj => up_off (fun q => hj (by rw [q]; rcases hi with g | g <;> rw [g] <;> decide))⟩
  refine ⟨h1.fr f (by decide) (by decide), by rw [f.2 4 (by decide)]; exact h2, by rw [f.2 29 (by decide), f.2 5 (by decide)]; exact h3, by rw [f.1 75 (by decide) (by decide), f.2 33 (by decide)]; exact h4, by rw [f.2 30 (by decide)]; exact h5, fun j s hs => ?_⟩
  rw [f.1 85 (by decide) (by decide), f.1 86 (by decide) (by decide)]
  exact h6 j s hs
end StM
