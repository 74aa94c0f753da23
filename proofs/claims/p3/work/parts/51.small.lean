/-! ===== the smallest methods of both sides ===== -/
section SM
variable {σ : am_S} {d : Nat}
theorem x_isSlot (s : Int32) : am_Ctr am_Lx IX10_isSlot (d + 1) [.int s] σ (some (.int (b01 (0 ≤ s.toInt ∧ s.toInt < 16)))) σ := by
  refine am_of am_owX10_isSlot (Nat.le_of_ble_eq_true rfl) ?_
  refine blX10_isSlot_0 (fun h => ?_) (fun h => ?_)
  · rw [b01_f (by rw [i_lt, l_0] at h; omega)]
    exact blX10_isSlot_14 (blX10_isSlot_15 (Or.inl rfl) rfl rfl)
  · refine blX10_isSlot_4 (fun h2 => ?_) (fun h2 => ?_)
    · rw [b01_f (by rw [i_le, l_16] at h2; omega)]
      exact blX10_isSlot_14 (blX10_isSlot_15 (Or.inl rfl) rfl rfl)
    · rw [b01_t (by rw [i_lt, l_0] at h; rw [i_le, l_16] at h2; omega)]
      exact blX10_isSlot_10 (blX10_isSlot_15 (Or.inr rfl) rfl rfl)
theorem x_isSymbol (s : Int32) : am_Ctr am_Lx IX10_isSymbol (d + 1) [.int s] σ (some (.int (b01 (0 ≤ s.toInt ∧ s.toInt ≤ 1)))) σ := by
  refine am_of am_owX10_isSymbol (Nat.le_of_ble_eq_true rfl) ?_
  refine blX10_isSymbol_0 (fun h => ?_) (fun h => ?_)
  · rw [b01_t (by rw [i_eq, l_0] at h; omega)]
    exact blX10_isSymbol_9 (blX10_isSymbol_14 (Or.inr rfl) rfl rfl)
  · refine blX10_isSymbol_4 (fun h2 => ?_) (fun h2 => ?_)
    · rw [b01_f (by rw [i_eq, l_0] at h; rw [i_eq, l_1] at h2; omega)]
      exact blX10_isSymbol_13 (blX10_isSymbol_14 (Or.inl rfl) rfl rfl)
    · rw [b01_t (by rw [i_eq, l_1] at h2; omega)]
      exact blX10_isSymbol_9 (blX10_isSymbol_14 (Or.inr rfl) rfl rfl)
theorem m_in (v lo hi : Int64) : am_Ctr am_Lm IX11_in (d + 1) [.long v, .long lo, .long hi] σ (some (.int (b01 (lo.toInt ≤ v.toInt ∧ v.toInt ≤ hi.toInt)))) σ := by
  refine am_of am_owX11_in (Nat.le_of_ble_eq_true rfl) ?_
  refine blX11_in_0 (fun h => ?_) (fun h => ?_)
  · rw [b01_f (by rw [cmp_lt] at h; omega)]
    exact blX11_in_17 (blX11_in_18 (Or.inl rfl) rfl rfl)
  · refine blX11_in_6 (fun h2 => ?_) (fun h2 => ?_)
    · rw [b01_f (by rw [cmp_gt] at h2; omega)]
      exact blX11_in_17 (blX11_in_18 (Or.inl rfl) rfl rfl)
    · rw [b01_t (by rw [cmp_lt] at h; rw [cmp_gt] at h2; omega)]
      exact blX11_in_13 (blX11_in_18 (Or.inr rfl) rfl rfl)
theorem m_isSlot (s : Int32) : am_Ctr am_Lm IX11_isSlot (d + 2) [.int s] σ (some (.int (b01 (0 ≤ s.toInt ∧ s.toInt < 16)))) σ := by
  refine am_of am_owX11_isSlot (Nat.le_of_ble_eq_true rfl) ?_
  refine blX11_isSlot_0 (m_in _ _ _) (blX11_isSlot_9 (b01_or _) ?_ rfl)
  have e : ((0 : Int64).toInt ≤ s.toInt64.toInt ∧ s.toInt64.toInt ≤ (15 : Int64).toInt) ↔ (0 ≤ s.toInt ∧ s.toInt < 16) := by
    rw [i_64, j_0, j_15]
    omega
  unfold b01
  simp only [e]
end SM
