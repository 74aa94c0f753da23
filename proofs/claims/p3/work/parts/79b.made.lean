section MJ1
variable {σ τ υ : am_S}
theorem m_made {lo k a f T b n d : Nat} {L : List Tm} {Q : Int32 → am_S → Prop} (he : ent σ lo f T n L) (hf : f + L.length ≤ 20000) (hl : gS σ 0 7 = nI (f + L.length)) (hT : gS σ 0 4 = nI T) (hT2 : T ≤ 61000) (hb : gS σ 0 5 = nI b) (hb1 : b ≤ 1) (H : ∀ v τ, wk T f σ τ → gS τ 0 7 = nI f → md b T (node k a L) v τ → Q v τ) : am_K ri am_Lm IX11_made (d + 2) [.ref 0, .int (nI k), .int (nI a), .int (nI f)] σ Q := by
  have hw := ent_wf he
  have hfl := ent_flen he
  have hfl2 : L.flatten.length ≤ 1220000000 := Nat.le_trans hfl (Nat.le_trans (Nat.mul_le_mul (show L.length ≤ 20000 by omega) hT2) (by decide))
  clear hfl
  have hnl := node_len k a L
  have loop2 := m_made2 (k := k) (a := a) (d := d) (Q := Q) he hf hl hT hT2 hb hb1 H
  have loop1 : ∀ m i, i + m = L.length → am_X ri am_Lm IX11_made (d + 2) 6 [some (.ref 0), some (.int (nI k)), some (.int (nI a)), some (.int (nI f)), some (.int (nI (1 + off L i))), some (.int (nI (f + i))), none] [] σ Q := by
    intro m
    induction m with
    | zero =>
      intro i hi
      have ei : i = L.length := by omega
      subst ei
      have eo : off L L.length = L.flatten.length := by unfold off; rw [List.take_length]
      refine vX11_made_6 ?_
      rw [hl, hT, hb, eo, nI_add]
      have fail : (b = 1 ∨ 60000 < T + (node k a L).length) → Q (17280 : Int32) (wS (wS σ 0 5 (1 : Int32)) 0 7 (nI f)) := fun h => H _ _ (wk_S (wk_S wk_rfl (by simp)) (by simp)) (wS_at _ _ _ _) (Or.inr ⟨h, by rw [wS_ne (by omega), wS_at], by rw [wS_ne (by omega), wS_ne (by omega)]; exact hT⟩)
      refine pk_le (f + L.length) (f + L.length) (fun _ => And.symm (pk_eq b 0 (fun e => ?_) (fun e => ⟨Or.inr rfl, fail (Or.inl (by omega))⟩))) (fun h => by omega)
      refine pk_le (T + (1 + L.flatten.length)) 60000 (fun hle => ⟨Or.inl rfl, ?_⟩) (fun hgt => ⟨Or.inr rfl, fail (Or.inr (by omega))⟩)
      rw [pk_sub (Nat.le_add_right _ _), Nat.add_sub_cancel_left]
      refine m_head (d := d) (T := T) (by rw [wS_ne (by omega)]; exact hT) (by omega) ?_
      have := loop2 L.length 0 (wS (wA (wA (wA (wA (wS σ 0 5 0) 1 T (nI k)) 2 T (nI a)) 3 T (nI L.length)) 4 T (1 : Int32)) 0 4 (nI (T + 1))) e (by omega) (by omega) (wk_S (wk_A (wk_A (wk_A (wk_A (wk_S wk_rfl (by simp)) (by omega) (by omega) (Nat.le_refl _)) (by omega) (by omega) (Nat.le_refl _)) (by omega) (by omega) (Nat.le_refl _)) (by omega) (by omega) (Nat.le_refl _)) (by simp)) ?_ ?_ ?_ ?_ ?_ ?_ ?_ ?_
      · rw [Nat.add_zero] at this
        exact this
      · rw [wS_ne (by omega), gS_wA, gS_wA, gS_wA, gS_wA, wS_ne (by omega)]; exact hl
      · rw [wS_ne (by omega), gS_wA, gS_wA, gS_wA, gS_wA, wS_at]
      · rw [wS_at, off_0, Nat.add_zero]
      · rw [gA_wS, wA_ne (by omega), wA_ne (by omega), wA_ne (by omega), wA_at]
      · rw [gA_wS, wA_ne (by omega), wA_ne (by omega), wA_at]
      · rw [gA_wS, wA_ne (by omega), wA_at]
      · simp [seg]
      · rw [gA_wS, wA_arr (by omega), wA_arr (by omega), wA_arr (by omega), wA_arr (by omega), gA_wS]
    | succ m ih =>
      intro i hi
      have hiL : i < L.length := by omega
      obtain ⟨p, p1, p2, p3, p4⟩ := he i _ (List.getElem?_eq_getElem hiL)
      have hwi := hw _ (List.getElem_mem hiL)
      have hlen := wf_pos hwi
      have o1 := off_s hiL
      refine vX11_made_6 ?_
      rw [hl, nI_clamp (n := f + i) (by omega), p1, nI_clamp (n := p) (by omega), (seg_kd hwi p3).2.2.2, nI_add, nI_1, Nat.add_assoc f i 1, Nat.add_assoc 1 _ _, ← o1]
      exact pk_le (f + L.length) (f + i) (fun h => by omega) (fun _ => ⟨vp_in_nI (by omega) (by decide), vp_in_nI (by omega) (by decide), ih (i + 1) (by omega)⟩)
  refine vX11_made ?_
  have := loop1 L.length 0 (by omega)
  rw [off_0] at this
  exact this
end MJ1
