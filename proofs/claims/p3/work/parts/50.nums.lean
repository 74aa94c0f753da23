/-! ===== numbers ===== -/
theorem i_lt {a b : Int32} : a < b ↔ a.toInt < b.toInt := Int32.lt_iff_toInt_lt
theorem i_le {a b : Int32} : a ≤ b ↔ a.toInt ≤ b.toInt := Int32.le_iff_toInt_le
theorem i_eq {a b : Int32} : a = b ↔ a.toInt = b.toInt := Int32.toInt_inj.symm
theorem j_lt {a b : Int64} : a < b ↔ a.toInt < b.toInt := Int64.lt_iff_toInt_lt
theorem j_le {a b : Int64} : a ≤ b ↔ a.toInt ≤ b.toInt := Int64.le_iff_toInt_le
theorem j_eq {a b : Int64} : a = b ↔ a.toInt = b.toInt := Int64.toInt_inj.symm
theorem i_64 (a : Int32) : a.toInt64.toInt = a.toInt := Int32.toInt_toInt64 a
theorem cmp_lt (x y : Int64) : lg_cmp x y < 0 ↔ x.toInt < y.toInt := by
  unfold lg_cmp
  simp only [gt_iff_lt, Int64.lt_iff_toInt_lt, ← Int64.toInt_inj]
  split
  · constructor
    · intro h; exact absurd h (by decide)
    · intro h; omega
  · split
    · constructor
      · intro h; exact absurd h (by decide)
      · intro h; omega
    · constructor
      · intro _; omega
      · intro _; decide
theorem cmp_gt (x y : Int64) : 0 < lg_cmp x y ↔ y.toInt < x.toInt := by
  unfold lg_cmp
  simp only [gt_iff_lt, Int64.lt_iff_toInt_lt, ← Int64.toInt_inj]
  split
  · constructor
    · intro _; assumption
    · intro _; decide
  · split
    · constructor
      · intro h; exact absurd h (by decide)
      · intro h; omega
    · constructor
      · intro h; exact absurd h (by decide)
      · intro h; omega
/-- a truth as an int -/
def b01 (p : Prop) [Decidable p] : Int32 := if p then 1 else 0
theorem b01_t {p : Prop} [Decidable p] (h : p) : b01 p = 1 := if_pos h
theorem b01_f {p : Prop} [Decidable p] (h : ¬ p) : b01 p = 0 := if_neg h
theorem b01_or (p : Prop) [Decidable p] : b01 p = 0 ∨ b01 p = 1 := by
  by_cases h : p
  · exact Or.inr (b01_t h)
  · exact Or.inl (b01_f h)
theorem b01_0 {p : Prop} [Decidable p] : b01 p = 0 ↔ ¬ p := by
  by_cases h : p
  · rw [b01_t h]; exact ⟨fun z => absurd z (by decide), fun z => absurd h z⟩
  · rw [b01_f h]; exact ⟨fun _ => h, fun _ => rfl⟩
theorem i_rng (a : Int32) : -2147483648 ≤ a.toInt ∧ a.toInt < 2147483648 := ⟨Int32.le_toInt a, Int32.toInt_lt a⟩
/-- it names a slot -/
def isSl (s : Int32) : Prop := 0 ≤ s.toInt ∧ s.toInt < 16
def dec_isSl (s : Int32) : Decidable (isSl s) := inferInstanceAs (Decidable (_ ∧ _))
theorem isSl_nI {s : Int32} (h : isSl s) : ∃ k, k < 16 ∧ s = nI k := by
  obtain ⟨k, hk⟩ : ∃ k : Nat, s.toInt = k := ⟨s.toInt.toNat, by have := h.1; omega⟩
  refine ⟨k, by have := h.2; omega, i_eq.mpr ?_⟩
  rw [hk, nI_toInt (by have := h.2; omega)]
theorem nI_sl {k : Nat} (h : k < 16) : isSl (nI k) := by
  unfold isSl
  rw [nI_toInt (by omega)]
  omega
theorem vp_sl {s : Int32} (h : isSl s) : vp_in s 16 := vp_in_iff.mpr ⟨h.1, h.2⟩
theorem l_0 : (0 : Int32).toInt = 0 := rfl
theorem l_1 : (1 : Int32).toInt = 1 := by decide
theorem l_2 : (2 : Int32).toInt = 2 := by decide
theorem l_3 : (3 : Int32).toInt = 3 := by decide
theorem l_4 : (4 : Int32).toInt = 4 := by decide
theorem l_5 : (5 : Int32).toInt = 5 := by decide
theorem l_6 : (6 : Int32).toInt = 6 := by decide
theorem l_8 : (8 : Int32).toInt = 8 := by decide
theorem l_9 : (9 : Int32).toInt = 9 := by decide
theorem l_m9 : (-9 : Int32).toInt = -9 := by decide
theorem l_16 : (16 : Int32).toInt = 16 := by decide
theorem l_22 : (22 : Int32).toInt = 22 := by decide
theorem l_32 : (32 : Int32).toInt = 32 := by decide
theorem l_40 : (40 : Int32).toInt = 40 := by decide
theorem l_64 : (64 : Int32).toInt = 64 := by decide
theorem l_126 : (126 : Int32).toInt = 126 := by decide
theorem l_m1 : (-1 : Int32).toInt = -1 := by decide
theorem j_0 : (0 : Int64).toInt = 0 := rfl
theorem j_1 : (1 : Int64).toInt = 1 := by decide
theorem j_2 : (2 : Int64).toInt = 2 := by decide
theorem j_3 : (3 : Int64).toInt = 3 := by decide
theorem j_4 : (4 : Int64).toInt = 4 := by decide
theorem j_6 : (6 : Int64).toInt = 6 := by decide
theorem j_8 : (8 : Int64).toInt = 8 := by decide
theorem j_9 : (9 : Int64).toInt = 9 := by decide
theorem j_m9 : (-9 : Int64).toInt = -9 := by decide
theorem j_15 : (15 : Int64).toInt = 15 := by decide
theorem j_16 : (16 : Int64).toInt = 16 := by decide
theorem j_21 : (21 : Int64).toInt = 21 := by decide
theorem j_32 : (32 : Int64).toInt = 32 := by decide
theorem j_126 : (126 : Int64).toInt = 126 := by decide
