/-! ===== system, number ===== -/
/-- zeros into the first places of an array -/
def wz (a : Nat) : Nat → am_S → am_S
  | 0, σ => σ
  | k + 1, σ => wA (wz a k σ) a k 0
theorem wz_S (a k : Nat) (σ : am_S) : gS (wz a k σ) = gS σ := by
  induction k with
  | zero => rfl
  | succ k ih => exact ih
theorem wz_A (a k : Nat) (σ : am_S) (b j : Nat) : gA (wz a k σ) b j = if b = a ∧ j < k then 0 else gA σ b j := by
  induction k with
  | zero => simp [wz]
  | succ k ih =>
    show am_u2 (gA (wz a k σ)) a k 0 b j = _
    unfold am_u2
    by_cases hb : b = a
    · subst hb
      by_cases hj : j = k
      · simp [hj]
      · rw [if_pos rfl, if_neg hj, ih]
        by_cases h2 : j < k
        · rw [if_pos ⟨rfl, h2⟩, if_pos ⟨rfl, by omega⟩]
        · rw [if_neg (fun z => h2 z.2), if_neg (fun z => by omega)]
    · rw [if_neg hb, ih, if_neg (fun z => hb z.1), if_neg (fun z => hb z.1)]
section SY
variable {σ : am_S} {d : Nat}
theorem i_2 {n : Int32} {lo hi : Nat} (hh : hi < 2 ^ 31) (h : (lo : Int) ≤ n.toInt ∧ n.toInt ≤ hi) : ∃ m : Nat, lo ≤ m ∧ m ≤ hi ∧ n = nI m := by
  obtain ⟨m, hm⟩ : ∃ m : Nat, n.toInt = m := ⟨n.toInt.toNat, by omega⟩
  exact ⟨m, by omega, by omega, i_eq.mpr (by rw [hm, nI_toInt (by omega)])⟩
/-- the state behind system(rows, unknowns) -/
def sysx (r u : Int32) (σ : am_S) : am_S := wz 29 18 (wS (wS (wS σ 28 8 r) 28 9 u) 28 11 0)
def sysm (r u : Int32) (σ : am_S) : am_S := wz 18 18 (wS (wS (wS σ 0 29 r) 0 30 u) 0 32 0)
theorem x_bz {r0 : Option Value} {l1 l2 : Int32} (τ : am_S) : ∀ m k, k + m = 18 → r0 = none → am_E am_Lx IX0_begin (d + 1) 40 [some (.ref 28), some (.int l1), some (.int l2), some (.int (nI k))] [] (wz 29 k τ) r0 (wz 29 18 τ) := by
  intro m
  induction m with
  | zero =>
    intro k hk e
    have e2 : k = 18 := by omega
    subst e2
    exact blX0_begin_28_40 (fun _ => blX0_begin_28_62 e rfl) (fun h => absurd (by decide) h)
  | succ m ih =>
    intro k hk e
    refine blX0_begin_28_40 (fun h => absurd h (nI_ge (by omega) (by decide))) (fun _ => ?_)
    refine blX0_begin_28_49 (vp_in_nI (by omega) (by decide)) ?_
    rw [nI_1, nI_clamp (by omega)]
    exact ih (k + 1) (by omega) e
theorem x_begin {r u : Nat} (hr : r ≤ 3) (hu : u ≤ 6) (h1 : 1 ≤ r) (h2 : 1 ≤ u) (hw : gS σ 28 0 = nI 6) : am_Ctr am_Lx IX0_begin (d + 1) [.ref 28, .int (nI r), .int (nI u)] σ none (sysx (nI r) (nI u) σ) := by
  refine am_of am_owX0_begin (Nat.le_of_ble_eq_true rfl) ?_
  refine blX0_begin_28_0 ?_
  have e1 : (if Int32.ofNat 3 < nI r then Int32.ofNat 3 else nI r) = nI r := by
    rw [if_neg]
    exact nI_nlt hr (by decide)
  have e2 : (if gS σ 28 0 < nI u then gS σ 28 0 else nI u) = nI u := by
    rw [if_neg]
    rw [hw]
    exact nI_nlt hu (by decide)
  have e3 : ∀ m, 1 ≤ m → m ≤ 6 → (if (0 : Int32) < nI m then nI m else 0) = nI m := fun m a b => if_pos (nI_lt (a := 0) a (by omega))
  rw [e1, e2, e3 r h1 (by omega), e3 u h2 hu]
  exact x_bz _ 18 0 rfl rfl
theorem x_system (r u : Int32) (hw : gS σ 28 0 = nI 6) : (¬ (1 ≤ r.toInt ∧ r.toInt ≤ 3 ∧ 1 ≤ u.toInt ∧ u.toInt ≤ 6) ∧ am_Ctr am_Lx IX10_system (d + 2) [.ref 0, .int r, .int u] σ (some (.int (-1))) σ) ∨ ((1 ≤ r.toInt ∧ r.toInt ≤ 3 ∧ 1 ≤ u.toInt ∧ u.toInt ≤ 6) ∧ am_Ctr am_Lx IX10_system (d + 2) [.ref 0, .int r, .int u] σ (some (.int 1)) (sysx r u σ)) := by
  by_cases h : 1 ≤ r.toInt ∧ r.toInt ≤ 3 ∧ 1 ≤ u.toInt ∧ u.toInt ≤ 6
  · refine Or.inr ⟨h, am_of am_owX10_system (Nat.le_of_ble_eq_true rfl) ?_⟩
    obtain ⟨m, a1, a2, e1⟩ := i_2 (n := r) (lo := 1) (hi := 3) (by decide) ⟨h.1, h.2.1⟩
    obtain ⟨n, b1, b2, e2⟩ := i_2 (n := u) (lo := 1) (hi := 6) (by decide) h.2.2
    refine blX10_system_0 (fun z => by rw [i_lt, l_1] at z; omega) (fun _ => blX10_system_5 (fun z => by rw [i_lt, l_3] at z; omega) (fun _ => blX10_system_10 (fun z => by rw [i_lt, l_1] at z; omega) (fun _ => blX10_system_15 (fun _ => ?_) (fun z => by rw [i_le, l_6] at z; omega))))
    rw [e1, e2]
    exact blX10_system_23 (x_begin a2 b2 a1 b1 hw) (blX10_system_32 rfl rfl)
  · refine Or.inl ⟨h, am_of am_owX10_system (Nat.le_of_ble_eq_true rfl) ?_⟩
    refine blX10_system_0 (fun _ => blX10_system_21 rfl rfl) (fun z1 => blX10_system_5 (fun _ => blX10_system_21 rfl rfl) (fun z2 => blX10_system_10 (fun _ => blX10_system_21 rfl rfl) (fun z3 => blX10_system_15 (fun z4 => ?_) (fun _ => blX10_system_21 rfl rfl))))
    rw [i_lt, l_1] at z1 z3
    rw [i_lt, l_3] at z2
    rw [i_le, l_6] at z4
    exact absurd ⟨by omega, by omega, by omega, z4⟩ h
theorem m_bz {r0 : Option Value} {l1 l2 : Int32} (τ : am_S) : ∀ m k, k + m = 18 → r0 = some (.int 1) → am_E am_Lm IX11_system (d + 2) 43 [some (.ref 0), some (.int l1), some (.int l2), some (.int (nI k))] [] (wz 18 k τ) r0 (wz 18 18 τ) := by
  intro m
  induction m with
  | zero =>
    intro k hk e
    have e2 : k = 18 := by omega
    subst e2
    exact blX11_system_43 (fun _ => blX11_system_62 e rfl) (fun h => absurd (by decide) h)
  | succ m ih =>
    intro k hk e
    refine blX11_system_43 (fun h => absurd h (nI_ge (b := 18) (by omega) (by decide))) (fun _ => ?_)
    refine blX11_system_49 (vp_in_nI (by omega) (by decide)) ?_
    rw [nI_1, nI_clamp (by omega)]
    exact ih (k + 1) (by omega) e
theorem m_inI {n : Int32} {lo hi : Int64} {a b : Int} (h1 : lo.toInt = a) (h2 : hi.toInt = b) : am_Ctr am_Lm IX11_in (d + 1) [.long n.toInt64, .long lo, .long hi] σ (some (.int (b01 (a ≤ n.toInt ∧ n.toInt ≤ b)))) σ := by
  have h := m_in (σ := σ) (d := d) n.toInt64 lo hi
  rw [h1, h2, i_64] at h
  exact h
theorem m_system (r u : Int32) : (¬ (1 ≤ r.toInt ∧ r.toInt ≤ 3 ∧ 1 ≤ u.toInt ∧ u.toInt ≤ 6) → am_Ctr am_Lm IX11_system (d + 2) [.ref 0, .int r, .int u] σ (some (.int (-1))) σ) ∧ ((1 ≤ r.toInt ∧ r.toInt ≤ 3 ∧ 1 ≤ u.toInt ∧ u.toInt ≤ 6) → am_Ctr am_Lm IX11_system (d + 2) [.ref 0, .int r, .int u] σ (some (.int 1)) (sysm r u σ)) := by
  refine ⟨fun h => am_of am_owX11_system (Nat.le_of_ble_eq_true rfl) ?_, fun h => am_of am_owX11_system (Nat.le_of_ble_eq_true rfl) ?_⟩
  · refine blX11_system_0 (m_inI j_1 j_3) (blX11_system_9 (fun _ => blX11_system_24 rfl rfl) (fun z => blX11_system_12 (m_inI j_1 j_6) (blX11_system_21 (fun z2 => ?_) (fun _ => blX11_system_24 rfl rfl))))
    rw [b01_0] at z z2
    exact absurd ⟨(Classical.not_not.mp z).1, (Classical.not_not.mp z).2, Classical.not_not.mp z2⟩ h
  · refine blX11_system_0 (m_inI j_1 j_3) (blX11_system_9 (fun z => ?_) (fun _ => blX11_system_12 (m_inI j_1 j_6) (blX11_system_21 (fun _ => ?_) (fun z => ?_))))
    · rw [b01_0] at z
      exact absurd ⟨h.1, h.2.1⟩ z
    · exact blX11_system_26 (m_bz _ 18 0 rfl rfl)
    · rw [b01_0] at z
      exact absurd h.2.2 z
end SY
