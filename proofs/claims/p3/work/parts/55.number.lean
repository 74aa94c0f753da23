/-! ===== number, solution: who has what ===== -/
section NU
variable {σ : am_S} {d : Nat}
theorem x_hasNumber (r u : Int32) {R U : Nat} (hR : R ≤ 3) (hU : U ≤ 6) (h8 : gS σ 28 8 = nI R) (h9 : gS σ 28 9 = nI U) : am_Ctr am_Lx IX0_hasNumber (d + 1) [.ref 28, .int r, .int u] σ (some (.int (b01 (0 ≤ r.toInt ∧ r.toInt < R ∧ 0 ≤ u.toInt ∧ u.toInt < U)))) σ := by
  have eR : (gS σ 28 8).toInt = R := by rw [h8, nI_toInt (by omega)]
  have eU : (gS σ 28 9).toInt = U := by rw [h9, nI_toInt (by omega)]
  refine am_of am_owX0_hasNumber (Nat.le_of_ble_eq_true rfl) ?_
  have no : ¬ (0 ≤ r.toInt ∧ r.toInt < R ∧ 0 ≤ u.toInt ∧ u.toInt < U) → am_E am_Lx IX0_hasNumber (d + 1) 28 [some (.ref 28), some (.int r), some (.int u)] [] σ (some (.int (b01 (0 ≤ r.toInt ∧ r.toInt < R ∧ 0 ≤ u.toInt ∧ u.toInt < U)))) σ := fun h => by
    rw [b01_f h]
    exact blX0_hasNumber_28_28 (blX0_hasNumber_28_29 (Or.inl rfl) rfl rfl)
  refine blX0_hasNumber_28_0 (fun z => no (by rw [i_lt, l_0] at z; omega)) (fun z1 => blX0_hasNumber_28_4 (fun z => no (by rw [i_le, eR] at z; omega)) (fun z2 => blX0_hasNumber_28_12 (fun z => no (by rw [i_lt, l_0] at z; omega)) (fun z3 => blX0_hasNumber_28_16 (fun z => no (by rw [i_le, eU] at z; omega)) (fun z4 => ?_))))
  rw [i_lt, l_0] at z1 z3
  rw [i_le, eR] at z2
  rw [i_le, eU] at z4
  rw [b01_t (by omega)]
  exact blX0_hasNumber_28_24 (blX0_hasNumber_28_29 (Or.inr rfl) rfl rfl)
/-- the state behind number(..) -/
def numx (i : Nat) (v : Int32) (σ : am_S) : am_S := wS (wA σ 29 i v) 28 11 0
def numm (i : Nat) (v : Int32) (σ : am_S) : am_S := wS (wA σ 18 i v) 0 32 0
theorem x_changed {r u : Nat} (v : Int32) (hr : r < 3) (hu : u < 6) (h0 : gS σ 28 0 = nI 6) : am_Ctr am_Lx IX0_changed (d + 1) [.ref 28, .int (nI r), .int (nI u), .int v] σ (some (.int (gA σ 29 (6 * r + u)))) (numx (6 * r + u) v σ) := by
  have e : nI r * gS σ 28 0 + nI u = nI (6 * r + u) := by rw [h0, pk_mul, nI_add, Nat.mul_comm]
  have hin : vp_in (nI r * gS σ 28 0 + nI u) 18 := by rw [e]; exact vp_in_nI (by omega) (by decide)
  refine am_of am_owX0_changed (Nat.le_of_ble_eq_true rfl) (blX0_changed_28_0 hin hin ?_ ?_)
  · rw [e, nI_clamp (by omega)]
  · rw [e, nI_clamp (by omega)]
    rfl
theorem x_number (r u v : Int32) {R U : Nat} (hR : R ≤ 3) (hU : U ≤ 6) (h0 : gS σ 28 0 = nI 6) (h8 : gS σ 28 8 = nI R) (h9 : gS σ 28 9 = nI U) : (¬ (0 ≤ r.toInt ∧ r.toInt < R ∧ 0 ≤ u.toInt ∧ u.toInt < U ∧ -9 ≤ v.toInt ∧ v.toInt ≤ 9) → am_Ctr am_Lx IX10_number (d + 2) [.ref 0, .int r, .int u, .int v] σ (some (.int (-1001))) σ) ∧ ∀ i j : Nat, r = nI i → u = nI j → i < R → j < U → (-9 ≤ v.toInt ∧ v.toInt ≤ 9) → am_Ctr am_Lx IX10_number (d + 2) [.ref 0, .int r, .int u, .int v] σ (some (.int (gA σ 29 (6 * i + j)))) (numx (6 * i + j) v σ) := by
  refine ⟨fun h => am_of am_owX10_number (Nat.le_of_ble_eq_true rfl) ?_, fun i j ei ej hi hj hv => am_of am_owX10_number (Nat.le_of_ble_eq_true rfl) ?_⟩
  · refine blX10_number_0 (x_hasNumber r u hR hU h8 h9) (blX10_number_9 (fun _ => blX10_number_24 rfl rfl) (fun z1 => blX10_number_12 (fun _ => blX10_number_24 rfl rfl) (fun z2 => blX10_number_18 (fun z3 => ?_) (fun _ => blX10_number_24 rfl rfl))))
    rw [b01_0] at z1
    have z1 := Classical.not_not.mp z1
    rw [i_lt, l_m9] at z2
    rw [i_le, l_9] at z3
    exact absurd ⟨z1.1, z1.2.1, z1.2.2.1, z1.2.2.2, by omega, z3⟩ h
  · have er : r.toInt = i := by rw [ei, nI_toInt (by omega)]
    have eu : u.toInt = j := by rw [ej, nI_toInt (by omega)]
    refine blX10_number_0 (x_hasNumber r u hR hU h8 h9) (blX10_number_9 (fun z => ?_) (fun _ => blX10_number_12 (fun z => ?_) (fun _ => blX10_number_18 (fun _ => ?_) (fun z => ?_))))
    · rw [b01_0] at z
      exact absurd ⟨by omega, by omega, by omega, by omega⟩ z
    · rw [i_lt, l_m9] at z
      omega
    · rw [ei, ej]
      exact blX10_number_28 (x_changed v (by omega) (by omega) h0) (blX10_number_38 rfl rfl)
    · rw [i_le, l_9] at z
      omega
theorem i_s64 {x : Int32} {n : Nat} (h : x = nI n) (hn : n < 1000000) : ((x - 1).toInt64).toInt = (n : Int) - 1 := by
  rw [i_64, h]
  have := pk_sub_toInt (a := n) (b := 1) (by omega) (by decide)
  exact this
theorem m_number (r u v : Int32) {R U : Nat} (hR : R ≤ 3) (hU : U ≤ 6) (h8 : gS σ 0 29 = nI R) (h9 : gS σ 0 30 = nI U) : (¬ (0 ≤ r.toInt ∧ r.toInt < R ∧ 0 ≤ u.toInt ∧ u.toInt < U ∧ -9 ≤ v.toInt ∧ v.toInt ≤ 9) → am_Ctr am_Lm IX11_number (d + 2) [.ref 0, .int r, .int u, .int v] σ (some (.int (-1001))) σ) ∧ ∀ i j : Nat, r = nI i → u = nI j → i < R → j < U → (-9 ≤ v.toInt ∧ v.toInt ≤ 9) → am_Ctr am_Lm IX11_number (d + 2) [.ref 0, .int r, .int u, .int v] σ (some (.int (gA σ 18 (6 * i + j)))) (numm (6 * i + j) v σ) := by
  have eR := i_s64 h8 (by omega)
  have eU := i_s64 h9 (by omega)
  refine ⟨fun h => am_of am_owX11_number (Nat.le_of_ble_eq_true rfl) ?_, fun i j ei ej hi hj hv => am_of am_owX11_number (Nat.le_of_ble_eq_true rfl) ?_⟩
  · refine blX11_number_0 (m_inI j_0 eR) (blX11_number_13 (fun _ => blX11_number_46 rfl rfl) (fun z1 => blX11_number_16 (m_inI j_0 eU) (blX11_number_29 (fun _ => blX11_number_46 rfl rfl) (fun z2 => blX11_number_32 (m_inI j_m9 j_9) (blX11_number_43 (fun z3 => ?_) (fun _ => blX11_number_46 rfl rfl))))))
    rw [b01_0] at z1 z2 z3
    have z1 := Classical.not_not.mp z1
    have z2 := Classical.not_not.mp z2
    have z3 := Classical.not_not.mp z3
    exact absurd ⟨z1.1, by omega, z2.1, by omega, z3.1, z3.2⟩ h
  · have er : r.toInt = i := by rw [ei, nI_toInt (by omega)]
    have eu : u.toInt = j := by rw [ej, nI_toInt (by omega)]
    have e : (6 : Int32) * r + u = nI (6 * i + j) := by
      rw [ei, ej, show (6 : Int32) = nI 6 from rfl, pk_mul, nI_add]
    have hin : vp_in ((6 : Int32) * r + u) 18 := by rw [e]; exact vp_in_nI (by omega) (by decide)
    refine blX11_number_0 (m_inI j_0 eR) (blX11_number_13 (fun z => ?_) (fun _ => blX11_number_16 (m_inI j_0 eU) (blX11_number_29 (fun z => ?_) (fun _ => blX11_number_32 (m_inI j_m9 j_9) (blX11_number_43 (fun _ => ?_) (fun z => ?_))))))
    · rw [b01_0] at z
      exact absurd ⟨by omega, by omega⟩ z
    · rw [b01_0] at z
      exact absurd ⟨by omega, by omega⟩ z
    · refine blX11_number_50 hin hin ?_ ?_
      · rw [e, nI_clamp (by omega)]
      · rw [e, nI_clamp (by omega)]
        rfl
    · rw [b01_0] at z
      exact absurd hv z
/-- has(i, j), given(i, j) of the class's SYSTEM -/
theorem x_has (i j : Int32) {C U : Nat} (hC : C ≤ 100) (hU : U ≤ 6) (h8 : gS σ 28 11 = nI C) (h9 : gS σ 28 9 = nI U) : am_Ctr am_Lx IX0_has (d + 1) [.ref 28, .int i, .int j] σ (some (.int (b01 (0 ≤ i.toInt ∧ i.toInt < C ∧ 0 ≤ j.toInt ∧ j.toInt < U)))) σ := by
  have eR : (gS σ 28 11).toInt = C := by rw [h8, nI_toInt (by omega)]
  have eU : (gS σ 28 9).toInt = U := by rw [h9, nI_toInt (by omega)]
  refine am_of am_owX0_has (Nat.le_of_ble_eq_true rfl) ?_
  have no : ¬ (0 ≤ i.toInt ∧ i.toInt < C ∧ 0 ≤ j.toInt ∧ j.toInt < U) → am_E am_Lx IX0_has (d + 1) 28 [some (.ref 28), some (.int i), some (.int j)] [] σ (some (.int (b01 (0 ≤ i.toInt ∧ i.toInt < C ∧ 0 ≤ j.toInt ∧ j.toInt < U)))) σ := fun h => by
    rw [b01_f h]
    exact blX0_has_28_28 (blX0_has_28_29 (Or.inl rfl) rfl rfl)
  refine blX0_has_28_0 (fun z => no (by rw [i_lt, l_0] at z; omega)) (fun z1 => blX0_has_28_4 (fun z => no (by rw [i_le, eR] at z; omega)) (fun z2 => blX0_has_28_12 (fun z => no (by rw [i_lt, l_0] at z; omega)) (fun z3 => blX0_has_28_16 (fun z => no (by rw [i_le, eU] at z; omega)) (fun z4 => ?_))))
  rw [i_lt, l_0] at z1 z3
  rw [i_le, eR] at z2
  rw [i_le, eU] at z4
  rw [b01_t (by omega)]
  exact blX0_has_28_24 (blX0_has_28_29 (Or.inr rfl) rfl rfl)
theorem x_given {i j : Nat} (hi : i < 100) (hj : j < 6) (h0 : gS σ 28 0 = nI 6) : am_Ctr am_Lx IX0_given (d + 1) [.ref 28, .int (nI i), .int (nI j)] σ (some (.int (gA σ 34 (6 * i + j)))) σ := by
  have e : nI i * gS σ 28 0 + nI j = nI (6 * i + j) := by rw [h0, pk_mul, nI_add, Nat.mul_comm]
  refine am_of am_owX0_given (Nat.le_of_ble_eq_true rfl) (blX0_given_28_0 (by rw [e]; exact vp_in_nI (by omega) (by decide)) ?_ rfl)
  rw [e, nI_clamp (by omega)]
theorem x_solution (i j : Int32) {C U : Nat} (hC : C ≤ 100) (hU : U ≤ 6) (h0 : gS σ 28 0 = nI 6) (h8 : gS σ 28 11 = nI C) (h9 : gS σ 28 9 = nI U) : (¬ (0 ≤ i.toInt ∧ i.toInt < C ∧ 0 ≤ j.toInt ∧ j.toInt < U) → am_Ctr am_Lx IX10_solution (d + 2) [.ref 0, .int i, .int j] σ (some (.int (-1))) σ) ∧ ∀ a b : Nat, i = nI a → j = nI b → a < C → b < U → am_Ctr am_Lx IX10_solution (d + 2) [.ref 0, .int i, .int j] σ (some (.int (gA σ 34 (6 * a + b)))) σ := by
  refine ⟨fun h => am_of am_owX10_solution (Nat.le_of_ble_eq_true rfl) ?_, fun a b ea eb ha hb => am_of am_owX10_solution (Nat.le_of_ble_eq_true rfl) ?_⟩
  · refine blX10_solution_0 (x_has i j hC hU h8 h9) (blX10_solution_9 (fun _ => blX10_solution_24 (blX10_solution_25 rfl rfl)) (fun z => ?_))
    rw [b01_0] at z
    exact absurd (Classical.not_not.mp z) h
  · have ei : i.toInt = a := by rw [ea, nI_toInt (by omega)]
    have ej : j.toInt = b := by rw [eb, nI_toInt (by omega)]
    refine blX10_solution_0 (x_has i j hC hU h8 h9) (blX10_solution_9 (fun z => ?_) (fun _ => ?_))
    · rw [b01_0] at z
      exact absurd ⟨by omega, by omega, by omega, by omega⟩ z
    · rw [ea, eb]
      exact blX10_solution_12 (x_given (by omega) (by omega) h0) (blX10_solution_21 (blX10_solution_25 rfl rfl))
theorem m_solution (i j : Int32) {C U : Nat} (hC : C ≤ 100) (hU : U ≤ 6) (h8 : gS σ 0 32 = nI C) (h9 : gS σ 0 30 = nI U) : (¬ (0 ≤ i.toInt ∧ i.toInt < C ∧ 0 ≤ j.toInt ∧ j.toInt < U) → am_Ctr am_Lm IX11_solution (d + 2) [.ref 0, .int i, .int j] σ (some (.int (-1))) σ) ∧ ∀ a b k : Nat, i = nI a → j = nI b → a < C → b < U → gA σ 21 a = nI k → k ≤ 100 → am_Ctr am_Lm IX11_solution (d + 2) [.ref 0, .int i, .int j] σ (some (.int (gA σ 19 (6 * k + b)))) σ := by
  have eR := i_s64 h8 (by omega)
  have eU := i_s64 h9 (by omega)
  refine ⟨fun h => am_of am_owX11_solution (Nat.le_of_ble_eq_true rfl) ?_, fun a b k ea eb ha hb hk hk1 => am_of am_owX11_solution (Nat.le_of_ble_eq_true rfl) ?_⟩
  · refine blX11_solution_0 (m_inI j_0 eR) (blX11_solution_13 (fun _ => blX11_solution_51 (blX11_solution_52 rfl rfl)) (fun z1 => blX11_solution_16 (m_inI j_0 eU) (blX11_solution_29 (fun _ => blX11_solution_51 (blX11_solution_52 rfl rfl)) (fun z2 => ?_))))
    rw [b01_0] at z1 z2
    have z1 := Classical.not_not.mp z1
    have z2 := Classical.not_not.mp z2
    exact absurd ⟨z1.1, by omega, z2.1, by omega⟩ h
  · have ei : i.toInt = a := by rw [ea, nI_toInt (by omega)]
    have ej : j.toInt = b := by rw [eb, nI_toInt (by omega)]
    refine blX11_solution_0 (m_inI j_0 eR) (blX11_solution_13 (fun z => ?_) (fun _ => blX11_solution_16 (m_inI j_0 eU) (blX11_solution_29 (fun z => ?_) (fun _ => ?_))))
    · rw [b01_0] at z
      exact absurd ⟨by omega, by omega⟩ z
    · rw [b01_0] at z
      exact absurd ⟨by omega, by omega⟩ z
    · have e1 : gA σ 21 (i).toNatClampNeg = nI k := by rw [ea, nI_clamp (by omega)]; exact hk
      have e : (6 : Int32) * gA σ 21 (i).toNatClampNeg + j = nI (6 * k + b) := by
        rw [e1, eb, show (6 : Int32) = nI 6 from rfl, pk_mul, nI_add]
      refine blX11_solution_32 (by rw [ea]; exact vp_in_nI (by omega) (by decide)) (by rw [e]; exact vp_in_nI (by omega) (by decide)) (blX11_solution_52 ?_ rfl)
      rw [e, nI_clamp (by omega)]
end NU
