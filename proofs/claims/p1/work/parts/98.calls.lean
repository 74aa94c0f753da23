/-! ===== each call on a new object ===== -/
theorem st_Sx : Sx am_x0 (fun _ => none) := fun _ _ => Or.inl ⟨rfl, rfl⟩
theorem st_Sm : Sm am_m0 (fun _ => none) := fun _ _ => Or.inl ⟨rfl, rfl⟩
theorem st_ok {Inv : am_S → am_S → Prop} (hI : ∀ a b, Inv a b) {Jx Jm : am_I} {as : List Value} (R : Int32) (hx : am_K ri am_Lx Jx 2000 (.ref 0 :: as) am_x0 (fun r _ => r = R)) (hm : am_K ri am_Lm Jm 2000 (.ref 0 :: as) am_m0 (fun r τ => r = R ∧ τ.2 = am_m0.2)) : lw_ok Inv Jx Jm as am_x0 am_m0 := by
  obtain ⟨r, σx, cx, e1⟩ := hx
  obtain ⟨r', σm, cm, e2, h2⟩ := hm
  have e3 : r = R := e1
  have e4 : r' = R := e2
  subst e3 e4
  exact ⟨_, σx, σm, cx, cm, ⟨by show am_m0.2.2.1 = σm.2.2.1; rw [h2], by show am_m0.2.2.2 = σm.2.2.2; rw [h2]⟩, hI _ _⟩
theorem st_sl {s : Int32} {k : Nat} (hk : k < 16) (e : s = nI k) : isSl s := by rw [e]; exact nI_sl hk
theorem st_vp {s : Int32} {k : Nat} (hk : k < 16) (e : s = nI k) : vp_in s 16 := by rw [e]; exact vp_in_nI hk (by omega)
theorem st_in {s : Int32} {j n : Nat} (hn : n < 2 ^ 31) (hj : j ≤ n) (e : s = nI j) : 0 ≤ s.toInt ∧ s.toInt ≤ n := by rw [e, nI_toInt (by omega)]; omega
theorem st_gP (k : Nat) : gP am_x0 1 k = none := rfl
theorem st_gPn {k t : Nat} {C : Prop} (e : gP am_x0 1 k = some t) : C := by
  rw [st_gP] at e
  cases e
theorem st_ne {x : Tm} {C : Prop} (e : (none : Option Tm) = some x) : C := by cases e
theorem st_1 : ¬ (1 : Int32) = 0 := by decide
section ST
variable {Inv : am_S → am_S → Prop}
theorem st_told (hI : ∀ a b, Inv a b) (a b : Int32) : lw_ok Inv IX10_told IX11_told [.int a, .int b] am_x0 am_m0 := by
  by_cases h : isSl a ∧ 0 ≤ b.toInt ∧ b.toInt ≤ 4
  · exact st_ok hI (-2) (x_told (d := 1998) st_Sx (fun _ _ _ _ _ _ => rfl) (fun z => absurd h z)) (m_told (d := 1997) st_Sm (fun _ _ _ _ _ _ => ⟨rfl, rfl⟩) (fun z => absurd h z))
  · exact st_ok hI (-1) (x_told (d := 1998) st_Sx (fun _ _ hk hj e1 e2 => absurd ⟨st_sl hk e1, st_in (by decide) hj e2⟩ h) (fun _ => rfl)) (m_told (d := 1997) st_Sm (fun _ _ hk hj e1 e2 => absurd ⟨st_sl hk e1, st_in (by decide) hj e2⟩ h) (fun _ => ⟨rfl, rfl⟩))
theorem st_part (hI : ∀ a b, Inv a b) (a b c : Int32) : lw_ok Inv IX10_part IX11_part [.int a, .int b, .int c] am_x0 am_m0 := by
  by_cases h : isSl a ∧ isSl c
  · exact st_ok hI (-2) (x_part (d := 1998) st_Sx (fun z => absurd h z) (fun _ _ _ _ _ => rfl) (fun _ _ _ _ _ e => st_ne e) (fun _ _ _ _ _ _ _ _ e _ _ _ _ _ _ => st_ne e)) (m_part (d := 1997) st_Sm (fun z => absurd h z) (fun _ _ _ _ _ => ⟨rfl, rfl⟩) (fun _ _ _ _ _ e => st_ne e) (fun _ _ _ _ _ _ _ _ e _ _ _ _ _ _ => st_ne e))
  · exact st_ok hI (-1) (x_part (d := 1998) st_Sx (fun _ => rfl) (fun _ hk e1 e2 _ => absurd ⟨st_sl hk e1, e2⟩ h) (fun _ _ _ _ _ e => st_ne e) (fun _ _ _ _ _ _ _ _ e _ _ _ _ _ _ => st_ne e)) (m_part (d := 1997) st_Sm (fun _ => ⟨rfl, rfl⟩) (fun _ hk e1 e2 _ => absurd ⟨st_sl hk e1, e2⟩ h) (fun _ _ _ _ _ e => st_ne e) (fun _ _ _ _ _ _ _ _ e _ _ _ _ _ _ => st_ne e))
theorem st_order (hI : ∀ a b, Inv a b) (a b : Int32) : lw_ok Inv IX10_order IX11_order [.int a, .int b] am_x0 am_m0 := by
  by_cases h : isSl a ∧ isSl b
  · exact st_ok hI (-2) (x_order (d := 1958) st_Sx (fun z => absurd h z) (fun _ _ _ _ _ _ _ => rfl) (fun _ _ _ _ _ _ _ _ e _ => st_ne e)) (m_order (d := 1958) st_Sm (fun z => absurd h z) (fun _ _ _ _ _ _ _ => ⟨rfl, rfl⟩) (fun _ _ _ _ _ _ _ _ e _ => st_ne e))
  · exact st_ok hI (-1) (x_order (d := 1958) st_Sx (fun _ => rfl) (fun _ _ hk hl e1 e2 _ => absurd ⟨st_sl hk e1, st_sl hl e2⟩ h) (fun _ _ _ _ _ _ _ _ e _ => st_ne e)) (m_order (d := 1958) st_Sm (fun _ => ⟨rfl, rfl⟩) (fun _ _ hk hl e1 e2 _ => absurd ⟨st_sl hk e1, st_sl hl e2⟩ h) (fun _ _ _ _ _ _ _ _ e _ => st_ne e))
theorem st_bud : bud 388 2522 am_x0 := ⟨by decide +kernel, by decide +kernel, by decide +kernel, by decide +kernel⟩
theorem st_bud2 : bud 2 13 am_x0 := ⟨by decide +kernel, by decide +kernel, by decide +kernel, by decide +kernel⟩
theorem st_join (hI : ∀ a b, Inv a b) (a b c e : Int32) : lw_ok Inv IX10_join IX11_join [.int a, .int b, .int c, .int e] am_x0 am_m0 := by
  by_cases h : isSl a ∧ isSl b ∧ (0 ≤ c.toInt ∧ c.toInt ≤ 1) ∧ isSl e
  · exact st_ok hI (-2) (x_join (d := 1956) st_Sx rfl st_bud2 (fun z => absurd h z) (fun _ _ _ _ _ _ _ _ _ => rfl) (fun _ _ _ _ _ _ _ _ _ _ e => st_ne e)) (m_join (d := 1956) st_Sm (fun z => absurd h z) (fun _ _ _ _ _ _ _ _ _ => ⟨rfl, rfl⟩) (fun _ _ _ _ _ _ _ _ _ _ e => st_ne e))
  · exact st_ok hI (-1) (x_join (d := 1956) st_Sx rfl st_bud2 (fun _ => rfl) (fun _ _ hk hl e1 e2 h3 h4 _ => absurd ⟨st_sl hk e1, st_sl hl e2, h3, h4⟩ h) (fun _ _ _ _ _ _ _ _ _ _ e => st_ne e)) (m_join (d := 1956) st_Sm (fun _ => ⟨rfl, rfl⟩) (fun _ _ hk hl e1 e2 h3 h4 _ => absurd ⟨st_sl hk e1, st_sl hl e2, h3, h4⟩ h) (fun _ _ _ _ _ _ _ _ _ _ e => st_ne e))
theorem st_print (hI : ∀ a b, Inv a b) (a : Int32) : lw_ok Inv IX10_print IX11_print [.int a] am_x0 am_m0 := by
  by_cases h : isSl a
  · exact st_ok hI (-2) (x_print (d := 1949) st_Sx (fun z => absurd h z) (fun _ _ _ _ => rfl) (fun _ _ _ _ _ e _ _ => st_ne e)) (m_print (d := 1949) st_Sm (fun z => absurd h z) (fun _ _ _ _ => ⟨rfl, rfl⟩) (fun _ _ _ _ _ e _ _ => st_ne e))
  · exact st_ok hI (-1) (x_print (d := 1949) st_Sx (fun _ => rfl) (fun _ hk e1 _ => absurd (st_sl hk e1) h) (fun _ _ _ _ _ e _ _ => st_ne e)) (m_print (d := 1949) st_Sm (fun _ => ⟨rfl, rfl⟩) (fun _ hk e1 _ => absurd (st_sl hk e1) h) (fun _ _ _ _ _ e _ _ => st_ne e))
theorem st_out (hI : ∀ a b, Inv a b) (a : Int32) : lw_ok Inv IX10_out IX11_out [.int a] am_x0 am_m0 :=
  st_ok hI (-2) (x_out (d := 1998) (ws := []) ⟨by decide, rfl, fun _ _ z => by simp at z⟩ (fun _ => rfl) (fun _ _ _ z => by simp at z)) (m_out (d := 1998) (ws := []) ⟨by decide, rfl, fun _ _ z => by simp at z⟩ (fun _ => ⟨rfl, rfl⟩) (fun _ _ _ z => by simp at z))
theorem st_match (hI : ∀ a b, Inv a b) (a b : Int32) : lw_ok Inv IX10_match IX11_match [.int a, .int b] am_x0 am_m0 := by
  by_cases h : isSl a ∧ isSl b
  · exact st_ok hI (-2) (vX10_match (xs_slot (d := 1998) (fun k hk ea => ⟨fun z => absurd z st_1, fun _ => xs_slot (d := 1998) (fun l hl eb => ⟨fun _ => ⟨st_vp hk ea, fun _ => ⟨st_vp hl eb, fun _ => rfl, fun _ e => st_gPn e⟩, fun _ e => st_gPn e⟩, fun z => absurd z st_1⟩) (fun z => absurd h.2 z)⟩) (fun z => absurd h.1 z)))
      (vX11_match (ms_slot (d := 1997) (fun k hk ea => ⟨fun z => absurd z st_1, fun _ => ms_slot (d := 1997) (fun l hl eb => ⟨fun _ => ⟨st_vp hk ea, fun _ => ⟨rfl, rfl⟩, fun z => absurd rfl z⟩, fun z => absurd z st_1⟩) (fun z => absurd h.2 z)⟩) (fun z => absurd h.1 z)))
  · exact st_ok hI (-1) (vX10_match (xs_slot (d := 1998) (fun k hk ea => ⟨fun z => absurd z st_1, fun _ => xs_slot (d := 1998) (fun l hl eb => absurd ⟨st_sl hk ea, st_sl hl eb⟩ h) (fun _ => ⟨fun z => absurd rfl z, fun _ => rfl⟩)⟩) (fun _ => ⟨fun _ => rfl, fun z => absurd rfl z⟩)))
      (vX11_match (ms_slot (d := 1997) (fun k hk ea => ⟨fun z => absurd z st_1, fun _ => ms_slot (d := 1997) (fun l hl eb => absurd ⟨st_sl hk ea, st_sl hl eb⟩ h) (fun _ => ⟨fun z => absurd rfl z, fun _ => ⟨rfl, rfl⟩⟩)⟩) (fun _ => ⟨fun _ => ⟨rfl, rfl⟩, fun z => absurd rfl z⟩)))
end ST
set_option maxRecDepth 20000 in
theorem st_has {d : Nat} {σ : am_S} {Q : Int32 → am_S → Prop} {l1 : Int32} (H : (l1 < 0 → Q (0 : Int32) σ) ∧ (¬ l1 < 0 → ((gS σ 11 6) ≤ l1 → Q (0 : Int32) σ) ∧ (¬ (gS σ 11 6) ≤ l1 → Q (1 : Int32) σ))) : am_K ri am_Lx IX3_has (d + 1) [.ref 11, .int l1] σ Q := K_of am_owX3_has (Nat.le_of_ble_eq_true rfl) (X_if (fun _ _ => blX3_has_0) (fun z0 => (X_go (fun _ _ => blX3_has_16) (X_ret (fun _ _ => blX3_has_17 (Or.inl rfl)) (H.1 z0)))) (fun z0 => (X_if (fun _ _ => blX3_has_4) (fun z1 => (X_go (fun _ _ => blX3_has_16) (X_ret (fun _ _ => blX3_has_17 (Or.inl rfl)) ((H.2 z0).1 z1)))) (fun z1 => (X_go (fun _ _ => blX3_has_12) (X_ret (fun _ _ => blX3_has_17 (Or.inr rfl)) ((H.2 z0).2 z1)))))))
/-- no MATCHER, no UNIFIER: the reference's range is empty -/
theorem st_none {d : Nat} {n : Int32} {hi : Int64} {Q : Int32 → am_S → Prop} (e : hi.toInt = -1) (H : Q 0 am_m0) : am_K ri am_Lm IX11_in (d + 1) [.long n.toInt64, .long 0, .long hi] am_m0 Q := by
  have c := m_inI (σ := am_m0) (d := d) (n := n) (lo := 0) (hi := hi) (a := 0) (b := -1) rfl e
  rw [b01_f (by omega)] at c
  exact ⟨_, _, c, H⟩
section ST2
variable {Inv : am_S → am_S → Prop}
theorem st_matched (hI : ∀ a b, Inv a b) (a b c : Int32) : lw_ok Inv IX10_matched IX11_matched [.int a, .int b, .int c] am_x0 am_m0 :=
  st_ok hI (-1) (vX10_matched (st_has (d := 1998) ⟨fun _ => ⟨fun _ => rfl, fun z => absurd rfl z⟩, fun h => ⟨fun _ => ⟨fun _ => rfl, fun z => absurd rfl z⟩, fun z => absurd (Int32.not_lt.mp h) z⟩⟩)) (vX11_matched (st_none (d := 1998) (by decide +kernel) ⟨fun _ => ⟨rfl, rfl⟩, fun z => absurd rfl z⟩))
theorem st_instance (hI : ∀ a b, Inv a b) (a b c : Int32) : lw_ok Inv IX10_instance IX11_instance [.int a, .int b, .int c] am_x0 am_m0 :=
  st_ok hI (-1) (vX10_instance (st_has (d := 1998) ⟨fun _ => ⟨fun _ => rfl, fun z => absurd rfl z⟩, fun h => ⟨fun _ => ⟨fun _ => rfl, fun z => absurd rfl z⟩, fun z => absurd (Int32.not_lt.mp h) z⟩⟩)) (vX11_instance (st_none (d := 1998) (by decide +kernel) ⟨fun _ => ⟨rfl, rfl⟩, fun z => absurd rfl z⟩))
theorem st_system (hI : ∀ a b, Inv a b) (a b : Int32) : lw_ok Inv IX10_system IX11_system [.int a, .int b] am_x0 am_m0 := by
  rcases x_system (σ := am_x0) (d := 1998) a b rfl with ⟨h, c⟩ | ⟨h, c⟩
  · exact st_ok hI (-1) ⟨_, _, c, rfl⟩ ⟨_, _, (m_system (σ := am_m0) (d := 1998) a b).1 h, rfl, rfl⟩
  · exact st_ok hI 1 ⟨_, _, c, rfl⟩ ⟨_, _, (m_system (σ := am_m0) (d := 1998) a b).2 h, rfl, rfl⟩
theorem st_number (hI : ∀ a b, Inv a b) (a b c : Int32) : lw_ok Inv IX10_number IX11_number [.int a, .int b, .int c] am_x0 am_m0 := by
  have hx := x_number (σ := am_x0) (d := 1998) a b c (R := 1) (U := 1) (by decide) (by decide) rfl rfl rfl
  have hm := m_number (σ := am_m0) (d := 1998) a b c (R := 1) (U := 1) (by decide) (by decide) rfl rfl
  by_cases h : 0 ≤ a.toInt ∧ a.toInt < 1 ∧ 0 ≤ b.toInt ∧ b.toInt < 1 ∧ -9 ≤ c.toInt ∧ c.toInt ≤ 9
  · obtain ⟨i, _, hi, ea⟩ := i_2 (n := a) (lo := 0) (hi := 0) (by decide) ⟨by omega, by omega⟩
    obtain ⟨j, _, hj, eb⟩ := i_2 (n := b) (lo := 0) (hi := 0) (by decide) ⟨by omega, by omega⟩
    exact st_ok hI 0 ⟨_, _, hx.2 i j ea eb (by omega) (by omega) ⟨by omega, by omega⟩, rfl⟩ ⟨_, _, hm.2 i j ea eb (by omega) (by omega) ⟨by omega, by omega⟩, rfl, rfl⟩
  · exact st_ok hI (-1001) ⟨_, _, hx.1 h, rfl⟩ ⟨_, _, hm.1 h, rfl, rfl⟩
theorem st_solution (hI : ∀ a b, Inv a b) (a b : Int32) : lw_ok Inv IX10_solution IX11_solution [.int a, .int b] am_x0 am_m0 :=
  st_ok hI (-1) ⟨_, _, (x_solution (σ := am_x0) (d := 1998) a b (C := 0) (U := 1) (by decide) (by decide) rfl rfl rfl).1 (by omega), rfl⟩ ⟨_, _, (m_solution (σ := am_m0) (d := 1998) a b (C := 0) (U := 1) (by decide) (by decide) rfl rfl).1 (by omega), rfl, rfl⟩
theorem st_z0 : ((0 : Int32).toInt = (0 : Int)) ∧ (-9 : Int) ≤ 0 ∧ (0 : Int) ≤ 9 := ⟨rfl, by decide, by decide⟩
theorem st_bs : bs28 1 1 (fun _ _ => 0) am_x0 := ⟨rfl, rfl, rfl, rfl, by decide, by decide, fun _ _ _ _ => st_z0⟩
theorem st_ms : ms 1 1 (fun _ _ => 0) am_m0 := ⟨rfl, rfl, by decide, by decide, by decide, fun _ _ _ _ => st_z0⟩
theorem st_lt1 {a : Int32} : a < 1 ↔ a.toInt < 1 := Int32.lt_iff_toInt_lt
theorem st_le16 {a : Int32} : a ≤ 16 ↔ a.toInt ≤ 16 := Int32.le_iff_toInt_le
theorem st_solve (hI : ∀ a b, Inv a b) (a : Int32) : lw_ok Inv IX10_solve IX11_solve [.int a] am_x0 am_m0 := by
  by_cases h : 1 ≤ a.toInt ∧ a.toInt ≤ 16
  · obtain ⟨S, h1, h2, rfl⟩ := i_2 (n := a) (lo := 1) (hi := 16) (by decide) h
    have e : ∀ T, nI S = nI T → T ≤ 16 → T = S := fun T z hT => ((nI_eq (by omega) (by omega)).mp z).symm
    by_cases hl : (sols 1 1 S (fun _ _ => 0)).length ≤ 100
    · refine st_ok hI (nI (sols 1 1 S (fun _ _ => 0)).length) (vX10_solve (d := 1999) ⟨fun z => ?_, fun _ => ⟨fun _ => x_found28 (R := 1) (U := 1) (A := fun _ _ => 0) (S := S) (d := 1995) st_bs h2 (fun _ _ _ _ => rfl) (fun _ _ z _ => by omega), fun z => ?_⟩⟩) (m_solve (d := 1992) st_ms (fun z => absurd h z) (fun T τ eT _ hT f _ _ => ?_) (fun T τ eT _ hT f z _ => ?_))
      · rw [st_lt1] at z; omega
      · rw [st_le16] at z; omega
      · rw [e T eT hT]; exact ⟨rfl, f.2.2.2.2.2⟩
      · rw [e T eT hT] at z; omega
    · refine st_ok hI (-4) (vX10_solve (d := 1999) ⟨fun z => ?_, fun _ => ⟨fun _ => x_found28 (R := 1) (U := 1) (A := fun _ _ => 0) (S := S) (d := 1995) st_bs h2 (fun _ _ z _ => absurd z hl) (fun _ _ _ _ => rfl), fun z => ?_⟩⟩) (m_solve (d := 1992) st_ms (fun z => absurd h z) (fun T τ eT _ hT f z _ => ?_) (fun T τ eT _ hT f _ _ => ⟨rfl, f.2.2.2.2.2⟩))
      · rw [st_lt1] at z; omega
      · rw [st_le16] at z; omega
      · rw [e T eT hT] at z; exact absurd z hl
  · refine st_ok hI (-1) (vX10_solve (d := 1999) ⟨fun _ => rfl, fun z => ⟨fun z2 => ?_, fun _ => rfl⟩⟩) (m_solve (d := 1992) st_ms (fun _ => ⟨rfl, rfl⟩) (fun T τ eT h1 hT _ _ _ => ?_) (fun T τ eT h1 hT _ _ _ => ?_))
    · rw [st_lt1] at z
      rw [st_le16] at z2
      omega
    · rw [eT, nI_toInt (by omega)] at h; omega
    · rw [eT, nI_toInt (by omega)] at h; omega
theorem st_unify (hI : ∀ a b, Inv a b) (a b c : Int32) : lw_ok Inv IX10_unify IX11_unify [.int a, .int b, .int c] am_x0 am_m0 := by
  by_cases h : isSl a ∧ isSl b ∧ 0 ≤ c.toInt ∧ c.toInt ≤ 1
  · exact st_ok hI (-2) (vX10_unify (xs_slot (d := 1998) (fun k hk ea => ⟨fun z => absurd z st_1, fun _ => xs_slot (d := 1998) (fun l hl eb => ⟨fun z => absurd z st_1, fun _ => xs_sym (d := 1998) (fun m hm ec => ⟨fun _ => ⟨st_vp hk ea, fun _ => ⟨st_vp hl eb, fun _ => rfl, fun _ e => st_gPn e⟩, fun _ e => st_gPn e⟩, fun z => absurd z st_1⟩) (fun z => absurd h.2.2 z)⟩) (fun z => absurd h.2.1 z)⟩) (fun z => absurd h.1 z)))
      (vX11_unify (ms_slot (d := 1997) (fun k hk ea => ⟨fun z => absurd z st_1, fun _ => ms_slot (d := 1997) (fun l hl eb => ⟨fun z => absurd z st_1, fun _ => ms_in (d := 1998) (a := 0) (b := 1) rfl rfl (by decide) (fun m _ hm ec => ⟨fun _ => ⟨st_vp hk ea, fun _ => ⟨rfl, rfl⟩, fun z => absurd rfl z⟩, fun z => absurd z st_1⟩) (fun z => absurd h.2.2 z)⟩) (fun z => absurd h.2.1 z)⟩) (fun z => absurd h.1 z)))
  · exact st_ok hI (-1) (vX10_unify (xs_slot (d := 1998) (fun k hk ea => ⟨fun z => absurd z st_1, fun _ => xs_slot (d := 1998) (fun l hl eb => ⟨fun z => absurd z st_1, fun _ => xs_sym (d := 1998) (fun m hm ec => absurd ⟨st_sl hk ea, st_sl hl eb, st_in (n := 1) (by decide) (by omega) ec⟩ h) (fun _ => ⟨fun z => absurd rfl z, fun _ => rfl⟩)⟩) (fun _ => ⟨fun _ => rfl, fun z => absurd rfl z⟩)⟩) (fun _ => ⟨fun _ => rfl, fun z => absurd rfl z⟩)))
      (vX11_unify (ms_slot (d := 1997) (fun k hk ea => ⟨fun z => absurd z st_1, fun _ => ms_slot (d := 1997) (fun l hl eb => ⟨fun z => absurd z st_1, fun _ => ms_in (d := 1998) (a := 0) (b := 1) rfl rfl (by decide) (fun m _ hm ec => absurd ⟨st_sl hk ea, st_sl hl eb, st_in (n := 1) (by decide) (by omega) ec⟩ h) (fun _ => ⟨fun z => absurd rfl z, fun _ => ⟨rfl, rfl⟩⟩)⟩) (fun _ => ⟨fun _ => ⟨rfl, rfl⟩, fun z => absurd rfl z⟩)⟩) (fun _ => ⟨fun _ => ⟨rfl, rfl⟩, fun z => absurd rfl z⟩)))
theorem st_lt0 {a : Int32} : a < 0 ↔ a.toInt < 0 := Int32.lt_iff_toInt_lt
theorem st_le2 {a : Int32} : a ≤ 2 ↔ a.toInt ≤ 2 := Int32.le_iff_toInt_le
theorem st_bases (hI : ∀ a b, Inv a b) (a : Int32) : lw_ok Inv IX10_bases IX11_bases [.int a] am_x0 am_m0 := by
  by_cases h : 0 ≤ a.toInt ∧ a.toInt ≤ 2
  · refine st_ok hI (-2) (vX10_bases ⟨fun z => ?_, fun _ => ⟨fun _ => ⟨fun z => absurd rfl z, fun _ => rfl⟩, fun z => ?_⟩⟩) (vX11_bases (ms_in (d := 1998) (a := 0) (b := 2) rfl rfl (by decide) (fun _ _ _ _ => ⟨fun _ => ⟨fun z => absurd rfl z, fun _ => ⟨rfl, rfl⟩⟩, fun z => absurd z st_1⟩) (fun z => absurd h z)))
    · rw [st_lt0] at z; omega
    · rw [st_le2] at z; omega
  · refine st_ok hI (-1) (vX10_bases ⟨fun _ => rfl, fun z => ⟨fun z2 => ?_, fun _ => rfl⟩⟩) (vX11_bases (ms_in (d := 1998) (a := 0) (b := 2) rfl rfl (by decide) (fun _ _ hk e => absurd (st_in (by decide) hk e) h) (fun _ => ⟨fun z => absurd rfl z, fun _ => ⟨rfl, rfl⟩⟩)))
    rw [st_lt0] at z
    rw [st_le2] at z2
    omega
theorem st_base (hI : ∀ a b, Inv a b) (a b : Int32) : lw_ok Inv IX10_base IX11_base [.int a, .int b] am_x0 am_m0 :=
  st_ok hI (-1) (vX10_base (d := 1999) ⟨fun _ => rfl, fun z => absurd (by decide : (0 : Int32) ≤ 0) z⟩) (vX11_base (d := 1999) ⟨fun _ => ⟨rfl, rfl⟩, fun z => absurd (by decide : (0 : Int32) ≤ 0) z⟩)
theorem st_set (hI : ∀ a b, Inv a b) (a : Int32) : lw_ok Inv IX10_set IX11_set [.int a] am_x0 am_m0 :=
  st_ok hI (-1) (vX10_set (d := 1999) ⟨fun _ => rfl, fun h => ⟨fun z => absurd z h, fun _ => rfl⟩⟩) (vX11_set (st_none (d := 1998) (by decide +kernel) ⟨fun _ => ⟨rfl, rfl⟩, fun z => absurd rfl z⟩))
theorem st_unified (hI : ∀ a b, Inv a b) (a b c : Int32) : lw_ok Inv IX10_unified IX11_unified [.int a, .int b, .int c] am_x0 am_m0 :=
  st_ok hI (-1) (vX10_unified (d := 1999) ⟨fun _ => rfl, fun h => ⟨fun _ => rfl, fun z => absurd (Int32.not_lt.mp h) z⟩⟩) (vX11_unified (st_none (d := 1998) (by decide +kernel) ⟨fun _ => ⟨rfl, rfl⟩, fun z => absurd rfl z⟩))
theorem tyx_len (w : Int64) : ∀ (m : Nat) (σ : am_S), gS (tyx w m σ) 7 2 = gS σ 7 2 + nI m
  | 0, σ => (Int32.add_zero _).symm
  | m + 1, σ => by
    show gS (tyx w m (wS (wA σ 8 (gS σ 7 2).toNatClampNeg (nI (byN w m))) 7 2 (gS σ 7 2 + 1))) 7 2 = _
    rw [tyx_len w m, wS_at, nI_succ, Int32.add_assoc, Int32.add_comm 1 (nI m)]
theorem tym_len (w : Int64) : ∀ (m : Nat) (σ : am_S), gS (tym w m σ) 0 9 = gS σ 0 9 + nI m
  | 0, σ => (Int32.add_zero _).symm
  | m + 1, σ => by
    show gS (tym w m (wS (wA σ 6 (gS σ 0 9).toNatClampNeg (nI (byN w m))) 0 9 (gS σ 0 9 + 1))) 0 9 = _
    rw [tym_len w m, wS_at, nI_succ, Int32.add_assoc, Int32.add_comm 1 (nI m)]
theorem tym_2 (w : Int64) : ∀ (m : Nat) (σ : am_S), (tym w m σ).2 = σ.2
  | 0, _ => rfl
  | m + 1, σ => tym_2 w m _
theorem st_type (hI : ∀ a b, Inv a b) (w : Int64) (a : Int32) : lw_ok Inv IX10_type IX11_type [.long w, .int a] am_x0 am_m0 := by
  have hm := m_type (σ := am_m0) (d := 1998) w a (L := 0) (by decide) rfl
  rcases x_typed (σ := am_x0) (d := 1997) w a (L := 0) (by decide) rfl with ⟨c, hb⟩ | ⟨m, en, h1, h8, hg, ⟨z, _⟩ | ⟨h64, c⟩⟩
  · exact st_ok hI (-1) (vX10_type ⟨_, _, c, rfl⟩) ⟨_, _, hm.1 hb, rfl, rfl⟩
  · omega
  · refine st_ok hI (nI m) (vX10_type ⟨_, _, c, ?_⟩) ⟨_, _, (hm.2 m en h1 h8 hg).2 h64, ?_, tym_2 w m am_m0⟩
    · show gS (tyx w m am_x0) 7 2 = nI m
      rw [tyx_len]
      show (0 : Int32) + nI m = nI m
      rw [Int32.zero_add]
    · rw [tym_len]
      show (0 : Int32) + nI m = nI m
      rw [Int32.zero_add]
theorem st_letV : ∀ i, i < 22 → (gS am_x0 (49 + i) 0 = nI 0 ∧ gS am_x0 (49 + i) 1 = nI i ∧ gQ am_x0 (49 + i) = some 48 ∧ gS am_x0 (49 + i) 3 = nI 1 ∧ gS am_x0 (49 + i) 4 = nI (vb (node 0 i [])) ∧ gP am_x0 4 i = some (49 + i) ∧ gk am_x0 (49 + i) = true) := by decide +kernel
theorem st_letC : ∀ i, i < 5 → (gS am_x0 (71 + i) 0 = nI 1 ∧ gS am_x0 (71 + i) 1 = nI i ∧ gQ am_x0 (71 + i) = some 48 ∧ gS am_x0 (71 + i) 3 = nI 1 ∧ gS am_x0 (71 + i) 4 = nI (vb (node 1 i [])) ∧ gP am_x0 4 (22 + i) = some (71 + i) ∧ gk am_x0 (71 + i) = true) := by decide +kernel
theorem st_ar : isAr am_x0 48 0 := ⟨by decide, by decide, rfl, rfl⟩
theorem st_lts : lts am_x0 := by
  refine ⟨fun i hi => ?_, fun i hi => ?_⟩
  · obtain ⟨h1, h2, h3, h4, h5, h6, h7⟩ := st_letV i hi
    exact ⟨_, h6, 1, ⟨by omega, show 49 + i < 76 by omega, h7⟩, 0, i, [], 48, rfl, fun _ z => by simp at z, h1, h2, h3, st_ar, h4, h5, fun _ _ z => by simp at z⟩
  · obtain ⟨h1, h2, h3, h4, h5, h6, h7⟩ := st_letC i hi
    exact ⟨_, h6, 1, ⟨by omega, show 71 + i < 76 by omega, h7⟩, 1, i, [], 48, rfl, fun _ z => by simp at z, h1, h2, h3, st_ar, h4, h5, fun _ _ z => by simp at z⟩
theorem st_read (hI : ∀ a b, Inv a b) (a : Int32) : lw_ok Inv IX10_read IX11_read [.int a] am_x0 am_m0 := by
  by_cases h : isSl a
  · obtain ⟨k, _, hk, rfl⟩ := i_2 (n := a) (lo := 0) (hi := 15) (by decide) ⟨h.1, by have := h.2; omega⟩
    obtain ⟨r, V', hx, hm⟩ := j_read (bs := []) (V := fun _ => none) ⟨by decide, fun _ z => by simp at z⟩ (k := k) (by omega)
    exact st_ok hI r (hx am_x0 1906 _ ⟨rfl, fun _ _ z => by simp at z⟩ rfl st_lts st_Sx st_bud (fun _ _ _ _ _ => rfl)) (hm am_m0 1887 _ ⟨rfl, fun _ _ z => by simp at z⟩ st_Sm (fun τ f _ _ => ⟨rfl, f.2.2.2⟩))
  · exact st_ok hI (-1) (vX10_read (xs_slot (d := 1998) (fun k hk e => absurd (st_sl hk e) h) (fun _ => ⟨fun z => absurd rfl z, fun _ => rfl⟩))) (vX11_read (ms_slot (d := 1997) (fun k hk e => absurd (st_sl hk e) h) (fun _ => ⟨fun z => absurd rfl z, fun _ => ⟨rfl, rfl⟩⟩)))
theorem st_all (hI : ∀ a b, Inv a b) : lw_all Inv am_x0 am_m0 :=
  ⟨st_type hI, st_read hI, st_told hI, st_part hI, st_order hI, st_join hI, st_print hI, st_out hI, st_match hI, st_matched hI, st_instance hI, st_system hI, st_number hI, st_solve hI, st_solution hI, st_unify hI, st_bases hI, st_base hI, st_set hI, st_unified hI⟩
end ST2
