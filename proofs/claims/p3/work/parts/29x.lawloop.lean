/-! ===== the law's loop, over any relation of the two systems' states that its calls keep ===== -/
/-- a call answers alike on both sides, and the relation holds behind it -/
def lw_ok (Inv : am_S → am_S → Prop) (Jx Jm : am_I) (as : List Value) (σx σm : am_S) : Prop := ∃ (r : Int32) (σx' σm' : am_S), am_Ctr am_Lx Jx 2000 (.ref 0 :: as) σx (some (.int r)) σx' ∧ am_Ctr am_Lm Jm 2000 (.ref 0 :: as) σm (some (.int r)) σm' ∧ (gc σm = gc σm' ∧ gs σm = gs σm') ∧ Inv σx' σm'
/-- a call whose answers may differ -/
def lw_on (Inv : am_S → am_S → Prop) (Jx Jm : am_I) (as : List Value) (σx σm : am_S) : Prop := ∃ (r r' : Int32) (σx' σm' : am_S), am_Ctr am_Lx Jx 2000 (.ref 0 :: as) σx (some (.int r)) σx' ∧ am_Ctr am_Lm Jm 2000 (.ref 0 :: as) σm (some (.int r')) σm' ∧ (gc σm = gc σm' ∧ gs σm = gs σm') ∧ Inv σx' σm'
def lw_all (Inv : am_S → am_S → Prop) (σx σm : am_S) : Prop :=
  (∀ (w : Int64) (a : Int32), lw_on Inv IX10_type IX11_type [.long w, .int a] σx σm) ∧
  (∀ (a : Int32), lw_ok Inv IX10_read IX11_read [.int a] σx σm) ∧
  (∀ (a b : Int32), lw_on Inv IX10_told IX11_told [.int a, .int b] σx σm) ∧
  (∀ (a b c : Int32), lw_on Inv IX10_part IX11_part [.int a, .int b, .int c] σx σm) ∧
  (∀ (a b : Int32), lw_on Inv IX10_order IX11_order [.int a, .int b] σx σm) ∧
  (∀ (a b c d : Int32), lw_on Inv IX10_join IX11_join [.int a, .int b, .int c, .int d] σx σm) ∧
  (∀ (a : Int32), lw_on Inv IX10_print IX11_print [.int a] σx σm) ∧
  (∀ (a : Int32), lw_on Inv IX10_out IX11_out [.int a] σx σm) ∧
  (∀ (a b : Int32), lw_on Inv IX10_match IX11_match [.int a, .int b] σx σm) ∧
  (∀ (a b c : Int32), lw_on Inv IX10_matched IX11_matched [.int a, .int b, .int c] σx σm) ∧
  (∀ (a b c : Int32), lw_on Inv IX10_instance IX11_instance [.int a, .int b, .int c] σx σm) ∧
  (∀ (a b : Int32), lw_on Inv IX10_system IX11_system [.int a, .int b] σx σm) ∧
  (∀ (a b c : Int32), lw_on Inv IX10_number IX11_number [.int a, .int b, .int c] σx σm) ∧
  (∀ (a : Int32), lw_on Inv IX10_solve IX11_solve [.int a] σx σm) ∧
  (∀ (a b : Int32), lw_on Inv IX10_solution IX11_solution [.int a, .int b] σx σm) ∧
  (∀ (a b c : Int32), lw_on Inv IX10_unify IX11_unify [.int a, .int b, .int c] σx σm) ∧
  (∀ (a : Int32), lw_on Inv IX10_bases IX11_bases [.int a] σx σm) ∧
  (∀ (a b : Int32), lw_on Inv IX10_base IX11_base [.int a, .int b] σx σm) ∧
  (∀ (a : Int32), lw_on Inv IX10_set IX11_set [.int a] σx σm) ∧
  (∀ (a b c : Int32), lw_on Inv IX10_unified IX11_unified [.int a, .int b, .int c] σx σm)
section LWL
variable {p : Program} {l : Launch} {e : Env} {s : State} {m : MethodId} {below : List Frame} {meth : Method} {c : Code} {b L : Nat} {xs : Nat → Int32} {g : am_G} {CB SB : Nat}
theorem lw_back {j : Nat} {σx σm : am_S} (C0 : lw_C p s m meth c b L xs g) (h : lw_E p l e s m below meth c b g CB SB 18 (nI (j + 5)) [] σx σm) : lw_E p l e s m below meth c b g CB SB 838 (nI j) [] σx σm := by
  refine lw_inc (n := 5) (v := nI (j + 5)) C0 (by decide +kernel) ?_ (lw_goto (off := -823) (tgt := 18) C0 (by decide +kernel) rfl h)
  rw [show Int32.ofInt 5 = nI 5 from by decide, nI_add]
theorem lw_sw {j k : Nat} {σx σm : am_S} (C0 : lw_C p s m meth c b L xs g) (hk : k < 32) (hj : j + 5 ≤ L) (hL : L ≤ 2560) {Inv : am_S → am_S → Prop} (ha : lw_all Inv σx σm) (h0 : Inv σx σm) (h : ∀ σx' σm', Inv σx' σm' → lw_E p l e s m below meth c b g CB SB 838 (nI j) [] σx' σm') : lw_E p l e s m below meth c b g CB SB 32 (nI j) [.int (nI k)] σx σm := by
  have go : ∀ (tgt : Nat) (off : Int), #[96, 159, 182, 215, 258, 291, 344, 367, 390, 423, 466, 509, 542, 585, 608, 641, 684, 707, 740, 763][k]? = some off → k < 20 → (32 : Int) + off = tgt → lw_E p l e s m below meth c b g CB SB tgt (nI j) [] σx σm → lw_E p l e s m below meth c b g CB SB 32 (nI j) [.int (nI k)] σx σm := by
    intro tgt off ho hk2 ht hE
    have hki : (nI k).toInt = (k : Int) := nI_toInt (by omega)
    refine lw_pure C0 hE fun H locs cells slots Q lsA x y hl _ kk => lv_tableIn (dflt := 806) (lo := 0) (hi := 19) (offs := #[96, 159, 182, 215, 258, 291, 344, 367, 390, 423, 466, 509, 542, 585, 608, 641, 684, 707, 740, 763]) (len := 96) (off := off) C0.1.1 C0.1.2.1 (by decide +kernel) (by rw [hki]; omega) (by rw [hki]; omega) ?_ ht kk
    rw [hki, show ((k : Int) - 0).toNat = k by omega]
    exact ho
  obtain ⟨g0, g1, g2, g3, g4, g5, g6, g7, g8, g9, g10, g11, g12, g13, g14, g15, g16, g17, g18, g19⟩ := ha
  by_cases hk2 : k < 20
  · exact match k, hk2, go with
    | 0, _, go => by
      obtain ⟨r, r', σx1, σm1, c1, c2, c3, c4⟩ := g0 (((xs (j + 1)).toInt64 <<< ((32 : Int32).toInt64 &&& 63)) ||| ((xs (j + 2)).toInt64 &&& 4294967295)) (xs (j + 3))
      exact go 128 96 rfl (by decide) rfl (lwc_0 C0 rfl hj hL c1 c2 c3 (h _ _ c4))
    | 1, _, go => by
      obtain ⟨r, σx1, σm1, c1, c2, c3, c4⟩ := g1 (xs (j + 1))
      exact go 191 159 rfl (by decide) rfl (lwc_1 C0 rfl hj hL c1 c2 c3 (h _ _ c4))
    | 2, _, go => by
      obtain ⟨r, r', σx1, σm1, c1, c2, c3, c4⟩ := g2 (xs (j + 1)) (xs (j + 2))
      exact go 214 182 rfl (by decide) rfl (lwc_2 C0 rfl hj hL c1 c2 c3 (h _ _ c4))
    | 3, _, go => by
      obtain ⟨r, r', σx1, σm1, c1, c2, c3, c4⟩ := g3 (xs (j + 1)) (xs (j + 2)) (xs (j + 3))
      exact go 247 215 rfl (by decide) rfl (lwc_3 C0 rfl hj hL c1 c2 c3 (h _ _ c4))
    | 4, _, go => by
      obtain ⟨r, r', σx1, σm1, c1, c2, c3, c4⟩ := g4 (xs (j + 1)) (xs (j + 2))
      exact go 290 258 rfl (by decide) rfl (lwc_4 C0 rfl hj hL c1 c2 c3 (h _ _ c4))
    | 5, _, go => by
      obtain ⟨r, r', σx1, σm1, c1, c2, c3, c4⟩ := g5 (xs (j + 1)) (xs (j + 2)) (xs (j + 3)) (xs (j + 4))
      exact go 323 291 rfl (by decide) rfl (lwc_5 C0 rfl hj hL c1 c2 c3 (h _ _ c4))
    | 6, _, go => by
      obtain ⟨r, r', σx1, σm1, c1, c2, c3, c4⟩ := g6 (xs (j + 1))
      exact go 376 344 rfl (by decide) rfl (lwc_6 C0 rfl hj hL c1 c2 c3 (h _ _ c4))
    | 7, _, go => by
      obtain ⟨r, r', σx1, σm1, c1, c2, c3, c4⟩ := g7 (xs (j + 1))
      exact go 399 367 rfl (by decide) rfl (lwc_7 C0 rfl hj hL c1 c2 c3 (h _ _ c4))
    | 8, _, go => by
      obtain ⟨r, r', σx1, σm1, c1, c2, c3, c4⟩ := g8 (xs (j + 1)) (xs (j + 2))
      exact go 422 390 rfl (by decide) rfl (lwc_8 C0 rfl hj hL c1 c2 c3 (h _ _ c4))
    | 9, _, go => by
      obtain ⟨r, r', σx1, σm1, c1, c2, c3, c4⟩ := g9 (xs (j + 1)) (xs (j + 2)) (xs (j + 3))
      exact go 455 423 rfl (by decide) rfl (lwc_9 C0 rfl hj hL c1 c2 c3 (h _ _ c4))
    | 10, _, go => by
      obtain ⟨r, r', σx1, σm1, c1, c2, c3, c4⟩ := g10 (xs (j + 1)) (xs (j + 2)) (xs (j + 3))
      exact go 498 466 rfl (by decide) rfl (lwc_10 C0 rfl hj hL c1 c2 c3 (h _ _ c4))
    | 11, _, go => by
      obtain ⟨r, r', σx1, σm1, c1, c2, c3, c4⟩ := g11 (xs (j + 1)) (xs (j + 2))
      exact go 541 509 rfl (by decide) rfl (lwc_11 C0 rfl hj hL c1 c2 c3 (h _ _ c4))
    | 12, _, go => by
      obtain ⟨r, r', σx1, σm1, c1, c2, c3, c4⟩ := g12 (xs (j + 1)) (xs (j + 2)) (xs (j + 3))
      exact go 574 542 rfl (by decide) rfl (lwc_12 C0 rfl hj hL c1 c2 c3 (h _ _ c4))
    | 13, _, go => by
      obtain ⟨r, r', σx1, σm1, c1, c2, c3, c4⟩ := g13 (xs (j + 1))
      exact go 617 585 rfl (by decide) rfl (lwc_13 C0 rfl hj hL c1 c2 c3 (h _ _ c4))
    | 14, _, go => by
      obtain ⟨r, r', σx1, σm1, c1, c2, c3, c4⟩ := g14 (xs (j + 1)) (xs (j + 2))
      exact go 640 608 rfl (by decide) rfl (lwc_14 C0 rfl hj hL c1 c2 c3 (h _ _ c4))
    | 15, _, go => by
      obtain ⟨r, r', σx1, σm1, c1, c2, c3, c4⟩ := g15 (xs (j + 1)) (xs (j + 2)) (xs (j + 3))
      exact go 673 641 rfl (by decide) rfl (lwc_15 C0 rfl hj hL c1 c2 c3 (h _ _ c4))
    | 16, _, go => by
      obtain ⟨r, r', σx1, σm1, c1, c2, c3, c4⟩ := g16 (xs (j + 1))
      exact go 716 684 rfl (by decide) rfl (lwc_16 C0 rfl hj hL c1 c2 c3 (h _ _ c4))
    | 17, _, go => by
      obtain ⟨r, r', σx1, σm1, c1, c2, c3, c4⟩ := g17 (xs (j + 1)) (xs (j + 2))
      exact go 739 707 rfl (by decide) rfl (lwc_17 C0 rfl hj hL c1 c2 c3 (h _ _ c4))
    | 18, _, go => by
      obtain ⟨r, r', σx1, σm1, c1, c2, c3, c4⟩ := g18 (xs (j + 1))
      exact go 772 740 rfl (by decide) rfl (lwc_18 C0 rfl hj hL c1 c2 c3 (h _ _ c4))
    | 19, _, go => by
      obtain ⟨r, r', σx1, σm1, c1, c2, c3, c4⟩ := g19 (xs (j + 1)) (xs (j + 2)) (xs (j + 3))
      exact go 795 763 rfl (by decide) rfl (lwc_19 C0 rfl hj hL c1 c2 c3 (h _ _ c4))
    | n + 20, h20, _ => absurd h20 (by omega)
  · have hki : (nI k).toInt = (k : Int) := nI_toInt (by omega)
    exact lw_pure C0 (h σx σm h0) fun H locs cells slots Q lsA x y hl _ kk => lv_tableOut (dflt := 806) (lo := 0) (hi := 19) (offs := #[96, 159, 182, 215, 258, 291, 344, 367, 390, 423, 466, 509, 542, 585, 608, 641, 684, 707, 740, 763]) (len := 96) (tgt := 838) C0.1.1 C0.1.2.1 (by decide +kernel) (by rw [hki]; omega) rfl kk
theorem lw_loop (C0 : lw_C p s m meth c b L xs g) (hL : L ≤ 2560) (Inv : Nat → am_S → am_S → Prop) (hs : ∀ n σx σm, Inv (n + 1) σx σm → Inv n σx σm ∧ lw_all (Inv n) σx σm) : ∀ (n j : Nat) (σx σm : am_S), Inv n σx σm → L < j + 5 * (n + 1) → j ≤ L + 5 → lw_E p l e s m below meth c b g CB SB 18 (nI j) [] σx σm := by
  intro n
  induction n with
  | zero =>
    intro j σx σm hi hn hj
    refine lw_ldi C0 (by decide +kernel) (lw_ld0 C0 (by decide +kernel) (lw_slen C0 (by decide +kernel) (lw_ic (n := 5) (v := nI 5) C0 (by decide +kernel) (by decide) (lw_sub C0 (by decide +kernel) ?_))))
    refine lw_gt (off := 821) (tgt := 844) C0 (by decide +kernel) rfl (fun _ => lw_end C0 (by decide +kernel) (by decide +kernel)) (fun hc => ?_)
    have h1 : (nI L - nI 5).toInt = (L : Int) - 5 := pk_sub_toInt (by omega) (by decide)
    have h2 : (nI j).toInt = (j : Int) := nI_toInt (by omega)
    have h3 : ¬ (nI L - nI 5).toInt < (nI j).toInt := fun z => hc (Int32.lt_iff_toInt_lt.mpr z)
    rw [h1, h2] at h3
    omega
  | succ n ih =>
    intro j σx σm hi hn hj
    refine lw_ldi C0 (by decide +kernel) (lw_ld0 C0 (by decide +kernel) (lw_slen C0 (by decide +kernel) (lw_ic (n := 5) (v := nI 5) C0 (by decide +kernel) (by decide) (lw_sub C0 (by decide +kernel) ?_))))
    refine lw_gt (off := 821) (tgt := 844) C0 (by decide +kernel) rfl (fun _ => lw_end C0 (by decide +kernel) (by decide +kernel)) (fun hc => ?_)
    have h1 : (nI L - nI 5).toInt = (L : Int) - 5 := pk_sub_toInt (by omega) (by decide)
    have h2 : (nI j).toInt = (j : Int) := nI_toInt (by omega)
    have h3 : ¬ (nI L - nI 5).toInt < (nI j).toInt := fun z => hc (Int32.lt_iff_toInt_lt.mpr z)
    rw [h1, h2] at h3
    refine lw_ld0 C0 (by decide +kernel) (lw_ldi C0 (by decide +kernel) (lw_sld C0 (vp_in_nI (by omega) (by omega)) (by decide +kernel) (lw_bp (n := 31) (v := 31) C0 (by decide +kernel) rfl (lw_and C0 (by decide +kernel) ?_))))
    obtain ⟨k, hk, ek⟩ := pk_andE (xs (nI j).toNatClampNeg) (m := 31) 5 (by decide)
    rw [ek]
    obtain ⟨s1, s2⟩ := hs n σx σm hi
    exact lw_sw C0 hk (by omega) hL s2 s1 fun σx' σm' hI => lw_back C0 (ih (j + 5) σx' σm' hI (by omega) (by omega))
end LWL
