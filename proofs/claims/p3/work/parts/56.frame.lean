/-! ===== what stays: cells of objects, arrays ===== -/
def fr (S : List (Nat × Nat)) (A J P : List Nat) (σ τ : am_S) : Prop := (∀ n k, (n, k) ∉ S → gS τ n k = gS σ n k) ∧ (∀ n, n ∉ A → gA τ n = gA σ n) ∧ (∀ n, n ∉ J → gJ τ n = gJ σ n) ∧ (∀ n, n ∉ P → gP τ n = gP σ n) ∧ gQ τ = gQ σ ∧ τ.2 = σ.2
section FR
variable {S : List (Nat × Nat)} {A J P : List Nat} {σ τ υ : am_S}
theorem fr_rfl : fr S A J P σ σ := ⟨fun _ _ _ => rfl, fun _ _ => rfl, fun _ _ => rfl, fun _ _ => rfl, rfl, rfl⟩
theorem fr_trans (h : fr S A J P σ τ) (g : fr S A J P τ υ) : fr S A J P σ υ := ⟨fun n k z => (g.1 n k z).trans (h.1 n k z), fun n z => (g.2.1 n z).trans (h.2.1 n z), fun n z => (g.2.2.1 n z).trans (h.2.2.1 n z), fun n z => (g.2.2.2.1 n z).trans (h.2.2.2.1 n z), g.2.2.2.2.1.trans h.2.2.2.2.1, g.2.2.2.2.2.trans h.2.2.2.2.2⟩
theorem fr_mono {S' : List (Nat × Nat)} {A' J' P' : List Nat} (h : fr S A J P σ τ) (a : ∀ x ∈ S, x ∈ S') (b : ∀ x ∈ A, x ∈ A') (c : ∀ x ∈ J, x ∈ J') (e : ∀ x ∈ P, x ∈ P') : fr S' A' J' P' σ τ := ⟨fun n k z => h.1 n k fun y => z (a _ y), fun n z => h.2.1 n fun y => z (b _ y), fun n z => h.2.2.1 n fun y => z (c _ y), fun n z => h.2.2.2.1 n fun y => z (e _ y), h.2.2.2.2.1, h.2.2.2.2.2⟩
theorem fr_wS {n k : Nat} {v : Int32} (h : fr S A J P σ τ) (hm : (n, k) ∈ S) : fr S A J P σ (wS τ n k v) := by
  refine ⟨fun a b z => ?_, h.2.1, h.2.2.1, h.2.2.2.1, h.2.2.2.2.1, h.2.2.2.2.2⟩
  rw [← h.1 a b z]
  show am_u2 (gS τ) n k v a b = _
  unfold am_u2
  by_cases e : a = n
  · rw [if_pos e]
    by_cases e2 : b = k
    · exact absurd (by rw [e, e2]; exact hm) z
    · rw [if_neg e2]
  · rw [if_neg e]
theorem fr_wA {n k : Nat} {v : Int32} (h : fr S A J P σ τ) (hm : n ∈ A) : fr S A J P σ (wA τ n k v) := by
  refine ⟨h.1, fun a z => ?_, h.2.2.1, h.2.2.2.1, h.2.2.2.2.1, h.2.2.2.2.2⟩
  rw [← h.2.1 a z]
  funext b
  show am_u2 (gA τ) n k v a b = _
  unfold am_u2
  by_cases e : a = n
  · exact absurd (by rw [e]; exact hm) z
  · rw [if_neg e]
theorem fr_wAf {n : Nat} {f : Nat → Int32} (h : fr S A J P σ τ) (hm : n ∈ A) : fr S A J P σ (wAf τ n f) := by
  refine ⟨h.1, fun a z => ?_, h.2.2.1, h.2.2.2.1, h.2.2.2.2.1, h.2.2.2.2.2⟩
  rw [← h.2.1 a z]
  show va_up (gA τ) n f a = _
  unfold va_up
  by_cases e : a = n
  · exact absurd (by rw [e]; exact hm) z
  · rw [if_neg e]
theorem fr_wJ {n k : Nat} {v : Int64} (h : fr S A J P σ τ) (hm : n ∈ J) : fr S A J P σ (wJ τ n k v) := by
  refine ⟨h.1, h.2.1, fun a z => ?_, h.2.2.2.1, h.2.2.2.2.1, h.2.2.2.2.2⟩
  rw [← h.2.2.1 a z]
  funext b
  show am_u2 (gJ τ) n k v a b = _
  unfold am_u2
  by_cases e : a = n
  · exact absurd (by rw [e]; exact hm) z
  · rw [if_neg e]
theorem fr_wJf {n : Nat} {f : Nat → Int64} (h : fr S A J P σ τ) (hm : n ∈ J) : fr S A J P σ (wJf τ n f) := by
  refine ⟨h.1, h.2.1, fun a z => ?_, h.2.2.2.1, h.2.2.2.2.1, h.2.2.2.2.2⟩
  rw [← h.2.2.1 a z]
  show va_up (gJ τ) n f a = _
  unfold va_up
  by_cases e : a = n
  · exact absurd (by rw [e]; exact hm) z
  · rw [if_neg e]
theorem fr_wP {n k : Nat} {v : Option Nat} (h : fr S A J P σ τ) (hm : n ∈ P) : fr S A J P σ (wP τ n k v) := by
  refine ⟨h.1, h.2.1, h.2.2.1, fun a z => ?_, h.2.2.2.2.1, h.2.2.2.2.2⟩
  rw [← h.2.2.2.1 a z]
  funext b
  show am_u2 (gP τ) n k v a b = _
  unfold am_u2
  by_cases e : a = n
  · exact absurd (by rw [e]; exact hm) z
  · rw [if_neg e]
end FR
/-! reading behind a write -/
theorem wA_at (σ : am_S) (n k : Nat) (v : Int32) : gA (wA σ n k v) n k = v := by
  show am_u2 (gA σ) n k v n k = v
  simp [am_u2]
theorem wA_ne {σ : am_S} {n k : Nat} {v : Int32} {a b : Nat} (h : ¬ (a = n ∧ b = k)) : gA (wA σ n k v) a b = gA σ a b := by
  show am_u2 (gA σ) n k v a b = _
  unfold am_u2
  by_cases e : a = n
  · rw [if_pos e, if_neg (fun z => h ⟨e, z⟩)]
  · rw [if_neg e]
theorem wA_arr {σ : am_S} {n k : Nat} {v : Int32} {a : Nat} (h : a ≠ n) : gA (wA σ n k v) a = gA σ a := by
  funext b
  exact wA_ne (fun z => h z.1)
theorem wS_at (σ : am_S) (n k : Nat) (v : Int32) : gS (wS σ n k v) n k = v := by
  show am_u2 (gS σ) n k v n k = v
  simp [am_u2]
theorem wS_ne {σ : am_S} {n k : Nat} {v : Int32} {a b : Nat} (h : ¬ (a = n ∧ b = k)) : gS (wS σ n k v) a b = gS σ a b := by
  show am_u2 (gS σ) n k v a b = _
  unfold am_u2
  by_cases e : a = n
  · rw [if_pos e, if_neg (fun z => h ⟨e, z⟩)]
  · rw [if_neg e]
theorem wJ_at (σ : am_S) (n k : Nat) (v : Int64) : gJ (wJ σ n k v) n k = v := by
  show am_u2 (gJ σ) n k v n k = v
  simp [am_u2]
theorem wJ_ne {σ : am_S} {n k : Nat} {v : Int64} {a b : Nat} (h : ¬ (a = n ∧ b = k)) : gJ (wJ σ n k v) a b = gJ σ a b := by
  show am_u2 (gJ σ) n k v a b = _
  unfold am_u2
  by_cases e : a = n
  · rw [if_pos e, if_neg (fun z => h ⟨e, z⟩)]
  · rw [if_neg e]
theorem wP_at (σ : am_S) (n k : Nat) (v : Option Nat) : gP (wP σ n k v) n k = v := by
  show am_u2 (gP σ) n k v n k = v
  simp [am_u2]
theorem wP_ne {σ : am_S} {n k : Nat} {v : Option Nat} {a b : Nat} (h : ¬ (a = n ∧ b = k)) : gP (wP σ n k v) a b = gP σ a b := by
  show am_u2 (gP σ) n k v a b = _
  unfold am_u2
  by_cases e : a = n
  · rw [if_pos e, if_neg (fun z => h ⟨e, z⟩)]
  · rw [if_neg e]
theorem wAf_at (σ : am_S) (n : Nat) (f : Nat → Int32) : gA (wAf σ n f) n = f := if_pos rfl
theorem wAf_ne {σ : am_S} {n : Nat} {f : Nat → Int32} {a : Nat} (h : a ≠ n) : gA (wAf σ n f) a = gA σ a := if_neg h
theorem wJf_at (σ : am_S) (n : Nat) (f : Nat → Int64) : gJ (wJf σ n f) n = f := if_pos rfl
theorem wJf_ne {σ : am_S} {n : Nat} {f : Nat → Int64} {a : Nat} (h : a ≠ n) : gJ (wJf σ n f) a = gJ σ a := if_neg h
/-! ints as numbers -/
theorem t_add {x y : Int32} {a b : Int} (hx : x.toInt = a) (hy : y.toInt = b) (h : -2147483648 ≤ a + b ∧ a + b < 2147483648) : (x + y).toInt = a + b := by
  rw [Int32.toInt_add, hx, hy]
  exact Int.bmod_eq_of_le (by omega) (by omega)
theorem t_sub {x y : Int32} {a b : Int} (hx : x.toInt = a) (hy : y.toInt = b) (h : -2147483648 ≤ a - b ∧ a - b < 2147483648) : (x - y).toInt = a - b := by
  rw [Int32.toInt_sub, hx, hy]
  exact Int.bmod_eq_of_le (by omega) (by omega)
theorem t_mul {x y : Int32} {a b : Int} (hx : x.toInt = a) (hy : y.toInt = b) (h : -2147483648 ≤ a * b ∧ a * b < 2147483648) : (x * y).toInt = a * b := by
  rw [Int32.toInt_mul, hx, hy]
  exact Int.bmod_eq_of_le (by omega) (by omega)
theorem t_neg {x : Int32} {a : Int} (hx : x.toInt = a) (h : -2147483648 < a) : (-x).toInt = -a := by
  have h2 := i_rng x
  rw [Int32.toInt_neg, hx]
  exact Int.bmod_eq_of_le (by omega) (by omega)
theorem nlt_iff {a b : Nat} (ha : a < 2147483648) (hb : b < 2147483648) : nI a < nI b ↔ a < b := by
  rw [i_lt, nI_toInt (by omega), nI_toInt (by omega)]
  omega
theorem nle_iff {a b : Nat} (ha : a < 2147483648) (hb : b < 2147483648) : nI a ≤ nI b ↔ a ≤ b := by
  rw [i_le, nI_toInt (by omega), nI_toInt (by omega)]
  omega
theorem neq_iff {a b : Nat} (ha : a < 2147483648) (hb : b < 2147483648) : nI a = nI b ↔ a = b := by
  rw [i_eq, nI_toInt (by omega), nI_toInt (by omega)]
  omega
theorem n_sub {a b : Nat} (h : b ≤ a) (ha : a < 2147483648) : nI a - nI b = nI (a - b) := by
  rw [i_eq, t_sub (nI_toInt (by omega)) (nI_toInt (by omega)) (by omega), nI_toInt (by omega)]
  omega
theorem nI_ofT {x : Int32} {a : Nat} (h : x.toInt = a) : x = nI a := by
  have := i_rng x
  rw [i_eq, h, nI_toInt (by omega)]
