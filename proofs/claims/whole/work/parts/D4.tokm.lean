/-! tokens of the reference -/
def isL (c : Int) : Prop := 97 ≤ c ∧ c ≤ 122
def isD (c : Int) : Prop := 48 ≤ c ∧ c ≤ 57
def KW : List Int := [482854663269, 448545973363, 426954290277, 2003395685, 431415716206, 439721159795, 1819632491, 1685217655, 113740958232179, 1651665261, 121450625394034, 6578553, 28530, 6385252, 7237492]
def SGN : List Int := [59, 40, 41, 60, 62, 61, 43, 45, 42, 47, 37]
def Run (P : Int → Prop) (a e : Int) : Prop := a ≤ e ∧ (∀ t, a ≤ t → t < e → P t) ∧ ¬ P e
theorem Run.uniq {P : Int → Prop} {a e e' : Int} (h : Run P a e) (g : Run P a e') : e = e' := by
  rcases Int.lt_trichotomy e e' with q | q | q
  · exact absurd (g.2.1 e h.1 q) h.2.2
  · exact q
  · exact absurd (h.2.1 e' g.1 q) g.2.2
def nmF (T : Int → Int) (a : Int) : Nat → Int
  | 0 => 0
  | k + 1 => bLor (bLshl (nmF T a k) 8) (T (a + k))
def nuF (T : Int → Int) (a : Int) : Nat → Int
  | 0 => 0
  | k + 1 => if k < 4 then 10 * nuF T a k + T (a + k) - 48 else nuF T a k
/-- a token of the reference: its sort, place, end, number, name -/
def TkM (T : Int → Int) (N p tok a e num nm : Int) : Prop :=
  Run (fun t => t < N ∧ (T t = 32 ∨ T t = 10)) p a ∧
  ((a = N ∧ e = N ∧ tok = 0) ∨
   (a < N ∧ isL (T a) ∧ Run (fun t => t < N ∧ isL (T t)) a e ∧ nm = nmF T a (min 8 (e - a)).toNat ∧ ((8 < e - a ∧ tok = 1) ∨ (e - a ≤ 8 ∧ ((nm ∈ KW ∧ tok = 3) ∨ (nm ∉ KW ∧ tok = 2))))) ∨
   (a < N ∧ isD (T a) ∧ Run (fun t => t < N ∧ isD (T t)) a e ∧ num = nuF T a (e - a).toNat ∧ (((4 < e - a ∨ (e < N ∧ isL (T e))) ∧ tok = 1) ∨ ((e - a ≤ 4 ∧ ¬ (e < N ∧ isL (T e))) ∧ tok = 4))) ∨
   (a < N ∧ ¬ isL (T a) ∧ ¬ isD (T a) ∧ e = a + 1 ∧ ((T a ∈ SGN ∧ tok = 5) ∨ (T a ∉ SGN ∧ tok = 1))))
section TokM
variable {l : Launch} {G : GT} {d : Nat} {m : MM}
theorem c_isLetterM2 {x : Int} : CI l G Y_M_isLetter d [.inl x] m (fun z m' => (z = 0 ↔ ¬ isL x) ∧ m = m') :=
  e_M_isLetter x (fun _ _ => ⟨fun c => ⟨⟨fun _ q => by have := q.1; omega, fun _ => rfl⟩, rfl⟩, fun c => ⟨fun c2 => ⟨⟨fun _ q => by have := q.2; omega, fun _ => rfl⟩, rfl⟩, fun c2 => ⟨⟨fun q => absurd q (by decide), fun q => absurd ⟨by omega, by omega⟩ q⟩, rfl⟩⟩⟩)
theorem c_isDigitM2 {x : Int} : CI l G Y_M_isDigit d [.inl x] m (fun z m' => (z = 0 ↔ ¬ isD x) ∧ m = m') :=
  e_M_isDigit x (fun _ _ => ⟨fun c => ⟨⟨fun _ q => by have := q.1; omega, fun _ => rfl⟩, rfl⟩, fun c => ⟨fun c2 => ⟨⟨fun _ q => by have := q.2; omega, fun _ => rfl⟩, rfl⟩, fun c2 => ⟨⟨fun q => absurd q (by decide), fun q => absurd ⟨by omega, by omega⟩ q⟩, rfl⟩⟩⟩)
theorem c_isSignM2 {x : Int} : CI l G Y_M_isSign d [.inl x] m (fun z m' => (z = 0 ↔ x ∉ SGN) ∧ m = m') := by
  have yes : x ∈ SGN → ((1 : Int) = 0 ↔ x ∉ SGN) := fun h => ⟨fun q => absurd q (by decide), fun q => absurd h q⟩
  refine e_M_isSign x (fun _ _ => ?_)
  refine ⟨fun c => ⟨yes (by rw [c]; decide), rfl⟩, fun c1 => ⟨fun c => ⟨yes (by rw [c]; decide), rfl⟩, fun c2 => ⟨fun c => ⟨yes (by rw [c]; decide), rfl⟩, fun c3 => ⟨fun c => ⟨yes (by rw [c]; decide), rfl⟩, fun c4 => ⟨fun c => ⟨yes (by rw [c]; decide), rfl⟩, fun c5 => ⟨fun c => ⟨yes (by rw [c]; decide), rfl⟩, fun c6 => ⟨fun c => ⟨yes (by rw [c]; decide), rfl⟩, fun c7 => ⟨fun c => ⟨yes (by rw [c]; decide), rfl⟩, fun c8 => ⟨fun c => ⟨yes (by rw [c]; decide), rfl⟩, fun c9 => ⟨fun c => ⟨yes (by rw [c]; decide), rfl⟩, fun c10 => ⟨fun c => ⟨⟨fun _ q => ?_, fun _ => rfl⟩, rfl⟩, fun c => ⟨yes (by rw [Classical.not_not.mp c]; decide), rfl⟩⟩⟩⟩⟩⟩⟩⟩⟩⟩⟩⟩
  unfold SGN at q
  simp only [List.mem_cons, List.not_mem_nil, or_false] at q
  omega
theorem c_isKeptM2 {x : Int} : CI l G Y_M_isKept d [.inr (.inl x)] m (fun z m' => (z = 0 ↔ x ∉ KW) ∧ m = m') := by
  have yes : x ∈ KW → ((1 : Int) = 0 ↔ x ∉ KW) := fun h => ⟨fun q => absurd q (by decide), fun q => absurd h q⟩
  have one : x ∈ KW → Wq l G false Y_M_isKept d (QI fun z m' => (z = 0 ↔ x ∉ KW) ∧ m = m') 69 [(0, .inr (.inl x))] [.inl 1] m := fun h => s_M_isKept_69 _ _ (fun _ _ _ => ⟨fun _ => ⟨yes h, rfl⟩, fun c => absurd (by decide) c⟩)
  refine e_M_isKept x (fun _ _ => ?_)
  refine ⟨fun c => one (by rw [c]; decide), fun c1 => ⟨fun c => one (by rw [c]; decide), fun c2 => ⟨fun c => one (by rw [c]; decide), fun c3 => ⟨fun c => one (by rw [c]; decide), fun c4 => ⟨fun c => one (by rw [c]; decide), fun c5 => ⟨fun c => one (by rw [c]; decide), fun c6 => ⟨fun c => one (by rw [c]; decide), fun c7 => ⟨fun c8 => ?_, fun c => one (by rw [Classical.not_not.mp c]; decide)⟩⟩⟩⟩⟩⟩⟩⟩
  refine s_M_isKept_69 _ _ (fun _ _ _ => ⟨fun c => absurd rfl c, fun _ => ⟨fun c => ⟨yes (by rw [c]; decide), rfl⟩, fun d1 => ⟨fun c => ⟨yes (by rw [c]; decide), rfl⟩, fun d2 => ⟨fun c => ⟨yes (by rw [c]; decide), rfl⟩, fun d3 => ⟨fun c => ⟨yes (by rw [c]; decide), rfl⟩, fun d4 => ⟨fun c => ⟨yes (by rw [c]; decide), rfl⟩, fun d5 => ⟨fun c => ⟨yes (by rw [c]; decide), rfl⟩, fun d6 => ⟨fun c => ⟨⟨fun _ q => ?_, fun _ => rfl⟩, rfl⟩, fun c => ⟨yes (by rw [Classical.not_not.mp c]; decide), rfl⟩⟩⟩⟩⟩⟩⟩⟩⟩)
  unfold KW at q
  simp only [List.mem_cons, List.not_mem_nil, or_false] at q
  omega
/-- the text that the reference reads -/
def tx (m : MM) (k : Int) : Int := bAnd (m 72 k) 255
theorem c_signM2 {k N : Int} (hk : 0 ≤ k) (hN : m 70 3 = N ∧ N ≤ 1600) : CI l G Y_M_sign d [.inr (.inr 70), .inl k] m (fun z m' => (k < N → z = tx m k) ∧ (¬ k < N → z = 0) ∧ m = m') :=
  e_M_sign k (fun _ _ => ⟨fun c => ⟨fun q => by omega, fun _ => rfl, rfl⟩, fun c => ⟨by omega, fun _ => rfl, fun q => absurd (show k < N by omega) q, rfl⟩⟩)
end TokM
