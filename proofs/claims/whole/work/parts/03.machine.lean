/-! A small machine over numbers: memory as numbers by cell and place, values as numbers with a kind; what it does, the machine does. -/
abbrev MV : Type := Int ⊕ (Int ⊕ Nat)
abbrev MM : Type := Nat → Int → Int
/-- base of the cells, the script's cell, classes, slots, array classes, texts, their bytes, the script's length, the script -/
abbrev GT : Type := Nat × Nat × (Nat → ClassId) × (Nat → Nat → Nat) × (Nat → ClassId) × (Nat → Nat) × (Nat → Nat) × Nat × (Nat → Int)
def g_b (G : GT) : Nat := G.1
def g_s (G : GT) : Nat := G.2.1
def g_D (G : GT) : va_G := (G.2.2.1, G.2.2.2.1)
def g_A (G : GT) : Nat → ClassId := G.2.2.2.2.1
def g_K (G : GT) : Nat → Nat := G.2.2.2.2.2.1
def g_V (G : GT) : Nat → Nat := G.2.2.2.2.2.2.1
def g_L (G : GT) : Nat := G.2.2.2.2.2.2.2.1
def g_x (G : GT) : Nat → Int := G.2.2.2.2.2.2.2.2
abbrev inR (z : Int) : Prop := -2147483648 ≤ z ∧ z < 2147483648
abbrev inL (z : Int) : Prop := -9223372036854775808 ≤ z ∧ z < 9223372036854775808
theorem inR_toInt (x : Int32) : inR x.toInt := ⟨by have := x.le_toInt; omega, by have := x.toInt_lt; omega⟩
theorem inL_toInt (x : Int64) : inL x.toInt := ⟨by have := x.le_toInt; omega, by have := x.toInt_lt; omega⟩
theorem toI {z : Int} (h : inR z) : (Int32.ofInt z).toInt = z := Int32.toInt_ofInt_of_le (by have := h.1; omega) (by have := h.2; omega)
theorem toL {z : Int} (h : inL z) : (Int64.ofInt z).toInt = z := Int64.toInt_ofInt_of_le (by have := h.1; omega) (by have := h.2; omega)
theorem toN {z : Int} (h : inR z) : (Int32.ofInt z).toNatClampNeg = z.toNat := by show (Int32.ofInt z).toInt.toNat = z.toNat; rw [toI h]
def g_ad (G : GT) (r : Nat) : Nat := if r < 1000 then g_b G + r else if r = 1000 then g_s G else g_K G (r - 1001)
def g_val (G : GT) (v : MV) : Value := match v with
  | .inl z => .int (Int32.ofInt z)
  | .inr (.inl z) => .long (Int64.ofInt z)
  | .inr (.inr r) => .ref (g_ad G r)
def g_fv (G : GT) (t : Nat) (z : Int) : Value := match t with
  | 1 => .long (Int64.ofInt z)
  | 2 => if z < 0 then .null else .ref (g_ad G z.toNat)
  | _ => .int (Int32.ofInt z)
def g_con (G : GT) (k : Nat) (f : Int → Int) : (Nat → Int32) ⊕ (Nat → Int64) ⊕ (Nat → UInt32) ⊕ (Nat → UInt64) ⊕ (Nat → Option Nat) := match k with
  | 1 => .inr (.inl fun j => Int64.ofInt (f j))
  | 4 => .inr (.inr (.inr (.inr fun j => if f j < 0 then none else some (g_ad G (f j).toNat))))
  | _ => .inl fun j => Int32.ofInt (f j)
def g_ent (G : GT) (f : Int → Int) (y : Nat ⊕ (Nat × Nat)) : va_E := match y with
  | .inl c => .inr (c, (List.range (q_nf c)).map fun k => g_fv G (q_ft c k) (f k))
  | .inr (k, n) => .inl (g_A G k, n, g_con G k f)
def g_ws (G : GT) (m : MM) (n : Nat) : va_W := (List.range n).map fun a => (g_b G + a, g_ent G (m a) (q_lay a))
def up (m : MM) (a : Nat) (i v : Int) : MM := fun b j => if b = a ∧ j = i then v else m b j
theorem up_ne {m : MM} {a b : Nat} {i v : Int} (h : b ≠ a) : up m a i v b = m b := by funext j; simp [up, h]
theorem up_eq {m : MM} {a : Nat} {i v : Int} : up m a i v a = fun j => if j = i then v else m a j := by funext j; simp [up]
theorem g_ws_get {G : GT} {m : MM} {n a : Nat} (h : a < n) : (g_ws G m n)[a]? = some (g_b G + a, g_ent G (m a) (q_lay a)) := by
  simp [g_ws, h]
theorem g_ws_set {G : GT} {m m' : MM} {n a : Nat} (h : a < n) (hm : ∀ b, b ≠ a → m' b = m b) : (g_ws G m n).set a (g_b G + a, g_ent G (m' a) (q_lay a)) = g_ws G m' n := by
  apply List.ext_getElem?
  intro i
  rw [List.getElem?_set]
  by_cases hi : a = i
  · subst hi
    rw [if_pos rfl, if_pos (by simpa [g_ws] using h), g_ws_get h]
  · rw [if_neg hi]
    by_cases hn : i < n
    · rw [g_ws_get hn, g_ws_get hn, hm i (Ne.symm hi)]
    · simp [g_ws, hn]
theorem g_ws_push {G : GT} {m : MM} {n : Nat} : g_ws G m n ++ [(g_b G + n, g_ent G (m n) (q_lay n))] = g_ws G m (n + 1) := by
  simp [g_ws, List.range_succ]
def q_A (G : GT) : Nat → Prop := fun q => g_b G ≤ q
theorem g_ws_D {G : GT} {m : MM} {n : Nat} : va_D (q_A G) (g_ws G m n) := by
  have hk : ∀ (k : Nat) (q : Nat × va_E), (g_ws G m n)[k]? = some q → q.1 = g_b G + k := fun k q h => by
    have hl : k < n := by
      have := (List.getElem?_eq_some_iff.mp h).1
      simpa [g_ws] using this
    rw [g_ws_get hl] at h
    cases h
    rfl
  refine ⟨fun i j p q hi hj e => ?_, fun k q h => ?_⟩
  · have h1 := hk i p hi
    have h2 := hk j q hj
    omega
  · show g_b G ≤ q.1
    rw [hk k q h]
    omega
/-- the kind of a place -/
def q_ak (k : Nat) : Nat := match k with
  | 1 => 1
  | 2 => 3
  | 3 => 4
  | 4 => 2
  | _ => 0
def q_st (a : Nat) (i : Int) : Nat := match q_lay a with
  | .inl c => q_ft c i.toNat
  | .inr q => q_ak q.1
def Rg (t : Nat) (z : Int) : Prop := match t with
  | 0 => inR z
  | 1 => inL z
  | 2 => True
  | 3 => z = 0 ∨ z = 1
  | _ => -128 ≤ z ∧ z < 128
def wfM (m : MM) : Prop := ∀ (a : Nat) (i : Int), Rg (q_st a i) (m a i)
def wfV (v : MV) : Prop := match v with
  | .inl z => inR z
  | .inr (.inl z) => inL z
  | .inr (.inr _) => True
def Ptr (m : MM) : Prop := ∀ (a : Nat) (i : Int) (r : Nat), q_pt a i = some r → m a i = r
theorem wfM_up {m : MM} (h : wfM m) {a : Nat} {i v : Int} (hv : Rg (q_st a i) v) : wfM (up m a i v) := by
  intro b j
  by_cases e : b = a ∧ j = i
  · obtain ⟨rfl, rfl⟩ := e
    simpa [up] using hv
  · simpa [up, e] using h b j
theorem Ptr_up {m : MM} (h : Ptr m) {a : Nat} {i v : Int} (hp : q_pt a i = none) : Ptr (up m a i v) := by
  intro b j r hr
  by_cases e : b = a ∧ j = i
  · obtain ⟨rfl, rfl⟩ := e
    rw [hp] at hr
    cases hr
  · simpa [up, e] using h b j r hr

theorem q_lay_obj {a c : Nat} (h : q_lay a = .inl c) : a < 111 := by
  rcases Nat.lt_or_ge a 111 with h1 | h1
  · exact h1
  · have : q_lay a = .inr (0, 0) := by
      unfold q_lay
      rw [List.getD_eq_getElem?_getD, List.getElem?_eq_none (by exact h1)]
      rfl
    rw [this] at h
    cases h
theorem q_lay_arr {a k len : Nat} (h : q_lay a = .inr (k, len)) (hl : 0 < len) : a < 111 := by
  rcases Nat.lt_or_ge a 111 with h1 | h1
  · exact h1
  · have : q_lay a = .inr (0, 0) := by
      unfold q_lay
      rw [List.getD_eq_getElem?_getD, List.getElem?_eq_none (by exact h1)]
      rfl
    rw [this] at h
    cases h
    exact absurd hl (Nat.lt_irrefl 0)
def q_kt (ty : FieldType) : Nat := match ty with
  | .int => 0
  | .long => 1
  | .boolean => 3
  | .byte => 4
  | .array _ => 2
  | .object _ => 2
  | _ => 9
def q_CF (c : Nat) (C : String) (T : u_T) (N : Nat) : Prop := (∀ w ∈ u_ws C T N, w ∈ q_W) ∧ N = q_nf c ∧ (∀ a, a < N → ∀ b, b < N → a ≠ b → (T a).2.1 ≠ (T b).2.1) ∧ Cond.instantiable C N ∈ q_W ∧ Cond.initialized C ∈ q_W ∧ ∃ ty0 : Nat → FieldType, (∀ k, k < N → parseFieldDescriptor (T k).2.2.1 = some (ty0 k)) ∧ ∀ k, k < N → q_kt (ty0 k) = q_ft c k
theorem q_cf : ∀ (c : Nat) (C : String) (T : u_T) (N : Nat), q_cls[c]? = some (C, T, N) → q_CF c C T N := by
  intro c C T N h
  match c, h with
  | 0, h => cases h; exact ⟨q_in0, rfl, q_nm0, q_inst0, q_ini0, q_y0, q_ok0, by decide +kernel⟩
  | 1, h => cases h; exact ⟨q_in1, rfl, q_nm1, q_inst1, q_ini1, q_y1, q_ok1, by decide +kernel⟩
  | 2, h => cases h; exact ⟨q_in2, rfl, q_nm2, q_inst2, q_ini2, q_y2, q_ok2, by decide +kernel⟩
  | 3, h => cases h; exact ⟨q_in3, rfl, q_nm3, q_inst3, q_ini3, q_y3, q_ok3, by decide +kernel⟩
  | 4, h => cases h; exact ⟨q_in4, rfl, q_nm4, q_inst4, q_ini4, q_y4, q_ok4, by decide +kernel⟩
  | 5, h => cases h; exact ⟨q_in5, rfl, q_nm5, q_inst5, q_ini5, q_y5, q_ok5, by decide +kernel⟩
  | 6, h => cases h; exact ⟨q_in6, rfl, q_nm6, q_inst6, q_ini6, q_y6, q_ok6, by decide +kernel⟩
  | 7, h => cases h; exact ⟨q_in7, rfl, q_nm7, q_inst7, q_ini7, q_y7, q_ok7, by decide +kernel⟩
  | 8, h => cases h; exact ⟨q_in8, rfl, q_nm8, q_inst8, q_ini8, q_y8, q_ok8, by decide +kernel⟩
  | 9, h => cases h; exact ⟨q_in9, rfl, q_nm9, q_inst9, q_ini9, q_y9, q_ok9, by decide +kernel⟩
  | 10, h => cases h; exact ⟨q_in10, rfl, q_nm10, q_inst10, q_ini10, q_y10, q_ok10, by decide +kernel⟩
  | 11, h => cases h; exact ⟨q_in11, rfl, q_nm11, q_inst11, q_ini11, q_y11, q_ok11, by decide +kernel⟩
  | c + 12, h => simp [q_cls] at h

def q_cat (v : MV) : Nat := match v with
  | .inr (.inl _) => 2
  | _ => 1
theorem q_cat_val (G : GT) (v : MV) : (g_val G v).category = q_cat v := by
  rcases v with z | z | r <;> rfl
