/-! ===== type: the bytes of a long ===== -/
/-- byte k of w, from the lowest on -/
def byN (w : Int64) (k : Nat) : Nat := w.toBitVec.toNat / 2 ^ (8 * k) % 256
theorem byN_lt (w : Int64) (k : Nat) : byN w k < 256 := Nat.mod_lt _ (by decide)
theorem by_sh : ∀ k, k < 8 → (((8 : Int32) * nI k).toInt64.toUInt64 &&& Int64.toUInt64 63) = UInt64.ofNat (8 * k) := by decide
theorem by_sh2 : ∀ k, k < 8 → ((((8 : Int32) * nI k).toInt64 &&& 63).toBitVec.smod 64) = BitVec.ofNat 64 (8 * k) := by decide
theorem by_x {w : Int64} {k : Nat} (h : k < 8) : ((w.toUInt64 >>> (((8 : Int32) * nI k).toInt64.toUInt64 &&& Int64.toUInt64 63)).toInt64.toInt32 &&& 255) = nI (byN w k) := by
  rw [by_sh k h]
  apply Int32.toBitVec_inj.mp
  apply BitVec.eq_of_toNat_eq
  have h1 : (nI (byN w k)).toBitVec.toNat = byN w k := pk_tn (by have := byN_lt w k; omega)
  rw [h1]
  have h2 : ((w.toUInt64 >>> UInt64.ofNat (8 * k)).toInt64.toInt32 &&& 255).toBitVec.toNat = (w.toUInt64 >>> UInt64.ofNat (8 * k)).toNat % 2 ^ 32 % 256 := by
    rw [pk_and ((w.toUInt64 >>> UInt64.ofNat (8 * k)).toInt64.toInt32) (m := 255) 8 (by decide), pk_tn (by have : ((w.toUInt64 >>> UInt64.ofNat (8 * k)).toInt64.toInt32).toBitVec.toNat % 2 ^ 8 < 2 ^ 8 := Nat.mod_lt _ (by decide); omega)]
    have h4 : ((w.toUInt64 >>> UInt64.ofNat (8 * k)).toInt64.toInt32).toBitVec.toNat = (w.toUInt64 >>> UInt64.ofNat (8 * k)).toNat % 2 ^ 32 := by
      show (BitVec.signExtend 32 (w.toUInt64 >>> UInt64.ofNat (8 * k)).toBitVec).toNat = _
      rw [BitVec.signExtend_eq_setWidth_of_le _ (by decide), BitVec.toNat_setWidth]
      rfl
    rw [h4]
  rw [h2]
  have h5 : (w.toUInt64 >>> UInt64.ofNat (8 * k)).toNat = w.toBitVec.toNat / 2 ^ (8 * k) := by
    rw [UInt64.toNat_shiftRight, Nat.shiftRight_eq_div_pow]
    have e1 : (UInt64.ofNat (8 * k)).toNat % 64 = 8 * k := by
      rw [UInt64.toNat_ofNat']
      omega
    rw [e1]
    rfl
  rw [h5]
  unfold byN
  rw [Nat.mod_mod_of_dvd _ (by decide : 256 ∣ 2 ^ 32)]
theorem by_m {w : Int64} {k : Nat} (h : k < 8) : (w >>> (((8 : Int32) * nI k).toInt64 &&& 63)) &&& 255 = lN (byN w k) := by
  apply Int64.toBitVec_inj.mp
  apply BitVec.eq_of_toNat_eq
  have hb := byN_lt w k
  have h1 : (lN (byN w k)).toBitVec.toNat = byN w k := by
    show (BitVec.ofNat 64 (byN w k)).toNat = _
    rw [BitVec.toNat_ofNat]
    exact Nat.mod_eq_of_lt (by omega)
  rw [h1]
  have h2 : ((w >>> (((8 : Int32) * nI k).toInt64 &&& 63)) &&& 255).toBitVec = (w.toBitVec.sshiftRight (8 * k)) &&& 255#64 := by
    show BitVec.sshiftRight' w.toBitVec ((((8 : Int32) * nI k).toInt64 &&& 63).toBitVec.smod 64) &&& _ = _
    rw [by_sh2 k h]
    have e : (BitVec.ofNat 64 (8 * k)).toNat = 8 * k := by
      rw [BitVec.toNat_ofNat]
      exact Nat.mod_eq_of_lt (by omega)
    show w.toBitVec.sshiftRight (BitVec.ofNat 64 (8 * k)).toNat &&& _ = _
    rw [e]
    rfl
  rw [h2]
  have h3 : (w.toBitVec.sshiftRight (8 * k)) &&& 255#64 = (w.toBitVec >>> (8 * k)) &&& 255#64 := by
    apply BitVec.eq_of_getLsbD_eq
    intro i hi
    rw [BitVec.getLsbD_and, BitVec.getLsbD_and, BitVec.getLsbD_sshiftRight, BitVec.getLsbD_ushiftRight]
    by_cases h8 : i < 8
    · have : 8 * k + i < 64 := by omega
      have h64 : ¬ 64 ≤ i := by omega
      simp [hi, this, h64]
    · have : (255#64).getLsbD i = false := by
        have e2 : (255#64).toNat.testBit i = false := by
          show (255 : Nat).testBit i = false
          exact Nat.testBit_lt_two_pow (by
            have : 2 ^ 8 ≤ 2 ^ i := Nat.pow_le_pow_right (by decide) (by omega)
            omega)
        exact e2
      rw [this, Bool.and_false, Bool.and_false]
  rw [h3, BitVec.toNat_and, BitVec.toNat_ushiftRight, Nat.shiftRight_eq_div_pow]
  show _ &&& 255 = _
  rw [show (255 : Nat) = 2 ^ 8 - 1 from rfl, Nat.and_two_pow_sub_one_eq_mod]
  rfl
section TY
variable {σ : am_S} {d : Nat}
theorem x_byteOf (w : Int64) {k : Nat} (h : k < 8) : am_Ctr am_Lx IX6_byteOf (d + 1) [.long w, .int (nI k)] σ (some (.int (nI (byN w k)))) σ := by
  refine am_of am_owX6_byteOf (Nat.le_of_ble_eq_true rfl) ?_
  exact blX6_byteOf_0 (by rw [by_x h]) rfl
/-- a byte that a text may hold -/
def goodB (b : Nat) : Prop := 32 ≤ b ∧ b ≤ 126
theorem by_nar : ∀ b, b < 127 → vp_nar .byte (nI b).toInt8.toInt32 = nI b := by decide +kernel
/-- what the class's text is behind bytes m - 1 .. 0 of w -/
def tyx (w : Int64) : Nat → am_S → am_S
  | 0, σ => σ
  | m + 1, σ => tyx w m (wS (wA σ 8 (gS σ 7 2).toNatClampNeg (nI (byN w m))) 7 2 (gS σ 7 2 + 1))
theorem x_ty1 {r0 : Option Value} {σ0 : am_S} (w : Int64) {n : Nat} (hn : n ≤ 8) : ∀ m i, i + m = n → ((∀ j, i ≤ j → j < n → goodB (byN w j)) → am_E am_Lx IX6_typed (d + 2) 52 [some (.ref 7), some (.long w), none, some (.int (nI n)), some (.int (nI n)), none] [] σ r0 σ0) → ((∃ j, i ≤ j ∧ j < n ∧ ¬ goodB (byN w j)) → r0 = some (.int (-1)) ∧ σ0 = σ) → am_E am_Lx IX6_typed (d + 2) 16 [some (.ref 7), some (.long w), none, some (.int (nI n)), some (.int (nI i)), none] [] σ r0 σ0 := by
  intro m
  induction m with
  | zero =>
    intro i hi h1 h2
    have e : i = n := by omega
    subst e
    exact blX6_typed_16 (fun _ => h1 fun j a b => by omega) (fun h => absurd (i_le.mpr (Int.le_refl _)) h)
  | succ m ih =>
    intro i hi h1 h2
    have hin : i < n := by omega
    refine blX6_typed_16 (fun h => absurd h (nI_ge hin (by omega))) (fun _ => ?_)
    refine blX6_typed_22 (x_byteOf w (by omega)) ?_
    have hb := byN_lt w i
    have hbi : (nI (byN w i)).toInt = (byN w i : Int) := nI_toInt (by omega)
    have bad : ¬ goodB (byN w i) → am_E am_Lx IX6_typed (d + 2) 44 [some (.ref 7), some (.long w), none, some (.int (nI n)), some (.int (nI i)), some (.int (nI (byN w i)))] [] σ r0 σ0 := fun hg => by
      obtain ⟨e1, e2⟩ := h2 ⟨i, Nat.le_refl _, hin, hg⟩
      exact blX6_typed_44 e1 e2
    refine blX6_typed_28 (fun h => bad fun hg => ?_) (fun h => ?_)
    · rw [i_lt, hbi, l_32] at h
      have := hg.1
      omega
    · refine blX6_typed_37 (fun h3 => ?_) (fun h3 => bad fun hg => ?_)
      · refine blX6_typed_46 ?_
        rw [nI_1]
        rw [i_lt, hbi, l_32] at h
        rw [i_le, hbi, l_126] at h3
        have hg : goodB (byN w i) := ⟨by omega, by omega⟩
        refine ih (i + 1) (by omega) (fun hall => h1 fun j a b => ?_) (fun ⟨j, a, b, c⟩ => h2 ⟨j, by omega, b, c⟩)
        by_cases hj : j = i
        · rw [hj]; exact hg
        · exact hall j (by omega) b
      · rw [i_le, hbi, l_126] at h3
        have := hg.2
        omega
theorem x_ty2 {r0 : Option Value} {σ0 : am_S} (w : Int64) {n : Nat} : ∀ (m L : Nat) (σ : am_S), m ≤ 8 → L + m ≤ 64 → gS σ 7 2 = nI L → (∀ j, j < m → goodB (byN w j)) → r0 = some (.int (gS (tyx w m σ) 7 2)) → σ0 = tyx w m σ → am_E am_Lx IX6_typed (d + 2) 71 [some (.ref 7), some (.long w), none, some (.int (nI n)), some (.int (nI m - 1)), none] [] σ r0 σ0 := by
  intro m
  induction m with
  | zero =>
    intro L σ _ _ _ _ e1 e2
    exact blX6_typed_71 (fun _ => blX6_typed_108 e1 e2) (fun h => absurd (by decide) h)
  | succ m ih =>
    intro L σ hm hL hS hg e1 e2
    rw [nI_pred]
    refine blX6_typed_71 (fun h => absurd h (nI_pos (by omega))) (fun _ => ?_)
    refine blX6_typed_76 (x_byteOf w (by omega)) ?_
    have hb := (hg m (Nat.lt_succ_self m)).2
    refine blX6_typed_90 (by rw [hS]; exact vp_in_nI (by omega) (by decide)) ?_
    have e3 : nI m + -1 = nI m - 1 := by
      apply Int32.toBitVec_inj.mp
      show (nI m).toBitVec + (-1 : Int32).toBitVec = (nI m).toBitVec - (1 : Int32).toBitVec
      rw [BitVec.sub_eq_add_neg]
      rfl
    rw [e3, by_nar _ (by omega)]
    refine ih (L + 1) _ (by omega) (by omega) ?_ (fun j hj => hg j (by omega)) e1 e2
    show gS σ 7 2 + 1 = nI (L + 1)
    rw [hS, nI_1]
/-- type, of the class -/
theorem x_typed (w : Int64) (n : Int32) {L : Nat} (hL : L ≤ 64) (hS : gS σ 7 2 = nI L) : am_Ctr am_Lx IX6_typed (d + 2) [.ref 7, .long w, .int n] σ (some (.int (-1))) σ ∧ (¬ (1 ≤ n.toInt ∧ n.toInt ≤ 8) ∨ ∃ j : Nat, (j : Int) < n.toInt ∧ ¬ goodB (byN w j)) ∨ ∃ m : Nat, n = nI m ∧ 1 ≤ m ∧ m ≤ 8 ∧ (∀ j, j < m → goodB (byN w j)) ∧ ((64 < L + m ∧ am_Ctr am_Lx IX6_typed (d + 2) [.ref 7, .long w, .int n] σ (some (.int (-4))) σ) ∨ (L + m ≤ 64 ∧ am_Ctr am_Lx IX6_typed (d + 2) [.ref 7, .long w, .int n] σ (some (.int (gS (tyx w m σ) 7 2))) (tyx w m σ))) := by
  by_cases hn : 1 ≤ n.toInt ∧ n.toInt ≤ 8
  · obtain ⟨m, hm⟩ : ∃ m : Nat, n.toInt = m := ⟨n.toInt.toNat, by omega⟩
    have en : n = nI m := i_eq.mpr (by rw [hm, nI_toInt (by omega)])
    by_cases hg : ∀ j, j < m → goodB (byN w j)
    · refine Or.inr ⟨m, en, by omega, by omega, hg, ?_⟩
      have pre : ∀ (r0 : Option Value) (σ0 : am_S), am_E am_Lx IX6_typed (d + 2) 52 [some (.ref 7), some (.long w), none, some (.int (nI m)), some (.int (nI m)), none] [] σ r0 σ0 → am_Ctr am_Lx IX6_typed (d + 2) [.ref 7, .long w, .int n] σ r0 σ0 := by
        intro r0 σ0 h
        refine am_of am_owX6_typed (Nat.le_of_ble_eq_true rfl) ?_
        refine blX6_typed_0 (fun h0 => ?_) (fun _ => blX6_typed_5 (fun _ => blX6_typed_13 ?_) (fun h0 => ?_))
        · rw [i_lt, l_1] at h0; omega
        · rw [en]
          exact x_ty1 w (by omega) m 0 (by omega) (fun _ => h) (fun ⟨j, _, b, c⟩ => absurd (hg j b) c)
        · rw [i_le, l_8] at h0; omega
      have hsum : gS σ 7 2 + nI m = nI (L + m) := by rw [hS, nI_add]
      have hsi : (nI (L + m)).toInt = ((L + m : Nat) : Int) := nI_toInt (by omega)
      by_cases hf : L + m ≤ 64
      · refine Or.inr ⟨hf, pre _ _ (blX6_typed_52 (fun _ => blX6_typed_66 (x_ty2 w m L σ (by omega) hf hS hg rfl rfl)) (fun h0 => ?_))⟩
        rw [hsum, i_le, hsi, l_64] at h0
        omega
      · refine Or.inl ⟨by omega, pre _ _ (blX6_typed_52 (fun h0 => ?_) (fun _ => blX6_typed_63 rfl rfl))⟩
        rw [hsum, i_le, hsi, l_64] at h0
        omega
    · have hex : ∃ j, j < m ∧ ¬ goodB (byN w j) := by
        apply Classical.byContradiction
        intro hne
        exact hg fun j hj => Classical.byContradiction fun hc => hne ⟨j, hj, hc⟩
      obtain ⟨j, hj, hb⟩ := hex
      refine Or.inl ⟨am_of am_owX6_typed (Nat.le_of_ble_eq_true rfl) ?_, Or.inr ⟨j, by omega, hb⟩⟩
      refine blX6_typed_0 (fun _ => blX6_typed_11 rfl rfl) (fun _ => blX6_typed_5 (fun _ => blX6_typed_13 ?_) (fun _ => blX6_typed_11 rfl rfl))
      rw [en]
      exact x_ty1 w (by omega) m 0 (by omega) (fun hall => absurd (hall j (Nat.zero_le _) hj) hb) (fun _ => ⟨rfl, rfl⟩)
  · refine Or.inl ⟨am_of am_owX6_typed (Nat.le_of_ble_eq_true rfl) ?_, Or.inl hn⟩
    refine blX6_typed_0 (fun _ => blX6_typed_11 rfl rfl) (fun h0 => blX6_typed_5 (fun h1 => ?_) (fun _ => blX6_typed_11 rfl rfl))
    rw [i_lt, l_1] at h0
    rw [i_le, l_8] at h1
    exact absurd ⟨by omega, h1⟩ hn
end TY
