/-! ===== type, of the reference ===== -/
theorem i_m1 (m : Nat) : nI m + -1 = nI m - 1 := by
  apply Int32.toBitVec_inj.mp
  show (nI m).toBitVec + (-1 : Int32).toBitVec = (nI m).toBitVec - (1 : Int32).toBitVec
  rw [BitVec.sub_eq_add_neg]
  rfl
section MTY
variable {σ : am_S} {d : Nat}
/-- what the reference's text is behind bytes m - 1 .. 0 of w -/
def tym (w : Int64) : Nat → am_S → am_S
  | 0, σ => σ
  | m + 1, σ => tym w m (wS (wA σ 6 (gS σ 0 9).toNatClampNeg (nI (byN w m))) 0 9 (gS σ 0 9 + 1))
theorem m_ty1 {r0 : Option Value} {σ0 : am_S} (w : Int64) {n : Nat} (hn : n ≤ 8) : ∀ m, m ≤ n → ((∀ j, j < m → goodB (byN w j)) → am_E am_Lm IX11_type (d + 2) 55 [some (.ref 0), some (.long w), none, some (.int (nI n)), some (.int (nI 0 - 1))] [] σ r0 σ0) → ((∃ j, j < m ∧ ¬ goodB (byN w j)) → r0 = some (.int (-1)) ∧ σ0 = σ) → am_E am_Lm IX11_type (d + 2) 19 [some (.ref 0), some (.long w), none, some (.int (nI n)), some (.int (nI m - 1))] [] σ r0 σ0 := by
  intro m
  induction m with
  | zero =>
    intro _ h1 _
    exact blX11_type_19 (fun _ => h1 fun j hj => by omega) (fun h => absurd (by decide) h)
  | succ m ih =>
    intro hm h1 h2
    rw [nI_pred]
    refine blX11_type_19 (fun h => absurd h (nI_pos (by omega))) (fun _ => ?_)
    refine blX11_type_24 (m_in _ _ _) ?_
    rw [by_m (by omega)]
    have hb := byN_lt w m
    have hbi : (lN (byN w m)).toInt = (byN w m : Int) := pk_lT (by omega)
    refine blX11_type_44 (fun h => ?_) (fun h => ?_)
    · have hg : goodB (byN w m) := by
        rw [b01_0, hbi, j_32, j_126] at h
        unfold goodB
        omega
      refine blX11_type_49 ?_
      rw [i_m1]
      refine ih (by omega) (fun hall => h1 fun j hj => ?_) (fun ⟨j, a, b⟩ => h2 ⟨j, by omega, b⟩)
      by_cases hjm : j = m
      · rw [hjm]; exact hg
      · exact hall j (by omega)
    · obtain ⟨e1, e2⟩ := h2 ⟨m, Nat.lt_succ_self m, fun hg => by
        rw [b01_0, hbi, j_32, j_126] at h
        unfold goodB at hg
        omega⟩
      exact blX11_type_47 e1 e2
theorem m_ty2 {r0 : Option Value} {σ0 : am_S} (w : Int64) {n : Nat} : ∀ (m L : Nat) (σ : am_S), m ≤ 8 → L + m ≤ 64 → gS σ 0 9 = nI L → r0 = some (.int (gS (tym w m σ) 0 9)) → σ0 = tym w m σ → am_E am_Lm IX11_type (d + 2) 74 [some (.ref 0), some (.long w), none, some (.int (nI n)), some (.int (nI m - 1))] [] σ r0 σ0 := by
  intro m
  induction m with
  | zero =>
    intro L σ _ _ _ e1 e2
    exact blX11_type_74 (fun _ => blX11_type_116 e1 e2) (fun h => absurd (by decide) h)
  | succ m ih =>
    intro L σ hm hL hS e1 e2
    rw [nI_pred]
    refine blX11_type_74 (fun h => absurd h (nI_pos (by omega))) (fun _ => ?_)
    refine blX11_type_79 (by rw [hS]; exact vp_in_nI (by omega) (by decide)) ?_
    rw [i_m1, by_m (by omega), lN_i]
    refine ih (L + 1) _ (by omega) (by omega) ?_ e1 e2
    show gS σ 0 9 + 1 = nI (L + 1)
    rw [hS, nI_1]
/-- type, of the reference -/
theorem m_type (w : Int64) (n : Int32) {L : Nat} (hL : L ≤ 64) (hS : gS σ 0 9 = nI L) : ((¬ (1 ≤ n.toInt ∧ n.toInt ≤ 8) ∨ ∃ j : Nat, (j : Int) < n.toInt ∧ ¬ goodB (byN w j)) → am_Ctr am_Lm IX11_type (d + 2) [.ref 0, .long w, .int n] σ (some (.int (-1))) σ) ∧ ∀ m : Nat, n = nI m → 1 ≤ m → m ≤ 8 → (∀ j, j < m → goodB (byN w j)) → (64 < L + m → am_Ctr am_Lm IX11_type (d + 2) [.ref 0, .long w, .int n] σ (some (.int (-4))) σ) ∧ (L + m ≤ 64 → am_Ctr am_Lm IX11_type (d + 2) [.ref 0, .long w, .int n] σ (some (.int (gS (tym w m σ) 0 9))) (tym w m σ)) := by
  have e18 : ∀ n : Int32, b01 ((1 : Int64).toInt ≤ n.toInt64.toInt ∧ n.toInt64.toInt ≤ (8 : Int64).toInt) = b01 (1 ≤ n.toInt ∧ n.toInt ≤ 8) := by
    intro n
    unfold b01
    simp only [i_64, j_1, j_8]
  refine ⟨fun hbad => ?_, fun m en h1 h8 hg => ?_⟩
  · refine am_of am_owX11_type (Nat.le_of_ble_eq_true rfl) ?_
    refine blX11_type_0 (m_in _ _ _) ?_
    rw [e18]
    refine blX11_type_9 (fun h => ?_) (fun _ => blX11_type_12 rfl rfl)
    have hn : 1 ≤ n.toInt ∧ n.toInt ≤ 8 := by
      rw [b01_0] at h
      exact Classical.not_not.mp h
    obtain ⟨m, hm⟩ : ∃ m : Nat, n.toInt = m := ⟨n.toInt.toNat, by omega⟩
    have en : n = nI m := i_eq.mpr (by rw [hm, nI_toInt (by omega)])
    rcases hbad with hb | ⟨j, hj, hb⟩
    · exact absurd hn hb
    · refine blX11_type_14 ?_
      rw [en]
      exact m_ty1 w (by omega) m (Nat.le_refl _) (fun hall => absurd (hall j (by omega)) hb) (fun _ => ⟨rfl, rfl⟩)
  · have hni : n.toInt = (m : Int) := by rw [en, nI_toInt (by omega)]
    have pre : ∀ (r0 : Option Value) (σ0 : am_S), am_E am_Lm IX11_type (d + 2) 55 [some (.ref 0), some (.long w), none, some (.int (nI m)), some (.int (nI 0 - 1))] [] σ r0 σ0 → am_Ctr am_Lm IX11_type (d + 2) [.ref 0, .long w, .int n] σ r0 σ0 := by
      intro r0 σ0 h
      refine am_of am_owX11_type (Nat.le_of_ble_eq_true rfl) ?_
      refine blX11_type_0 (m_in _ _ _) ?_
      rw [e18, b01_t (by omega)]
      refine blX11_type_9 (fun _ => blX11_type_14 ?_) (fun h0 => absurd h0 (by decide))
      rw [en]
      exact m_ty1 w h8 m (Nat.le_refl _) (fun _ => h) (fun ⟨j, a, b⟩ => absurd (hg j a) b)
    have hsum : gS σ 0 9 + nI m = nI (L + m) := by rw [hS, nI_add]
    have hsi : (nI (L + m)).toInt = ((L + m : Nat) : Int) := nI_toInt (by omega)
    refine ⟨fun hf => pre _ _ (blX11_type_55 (fun h0 => ?_) (fun _ => blX11_type_66 rfl rfl)), fun hf => pre _ _ (blX11_type_55 (fun _ => blX11_type_69 (m_ty2 w m L σ h8 hf hS rfl rfl)) (fun h0 => ?_))⟩
    · rw [hsum, i_le, hsi, l_64] at h0
      omega
    · rw [hsum, i_le, hsi, l_64] at h0
      omega
end MTY
