section AMY
variable {Λ : am_Lay} {I : am_I} {d : Nat} {MT : Nat → am_I} {r0 : Option Value} {σ0 : am_S}
set_option maxHeartbeats 4000000 in
/-- one step is sound -/
theorem am_step (hI : am_okI MT I) (hT : am_tok) {K : Nat → List (Option Value) → List Value → am_S → Prop} (hK : ∀ pc ls st σ, K pc ls st σ → am_E Λ I (d + 1) pc ls st σ r0 σ0) {i : Instr} {pc : Nat} {ls : List (Option Value)} {st : List Value} {σ : am_S} (hm : (pc, i) ∈ am_in I) (h : am_st Λ (fun mj => am_Ctr Λ (MT mj) d) I i pc ls st σ r0 σ0 K) : am_E Λ I (d + 1) pc ls st σ r0 σ0 := by
  obtain ⟨hd1, ⟨len, hd2⟩, hio⟩ := hI.1 _ hm
  dsimp only at hd1 hd2 hio
  obtain ⟨-, hfl, hml, h32, h64, htx, hnw⟩ := hI
  unfold am_st at h
  split at h

  · rename_i n
    exact am_pure (hK _ _ _ _ h) (am_s_p (am_si _)) (fun p l e R s m args below meth c H locs cells slots Q lsA ν hx hb ho hts k => lv_iconst hx hb (hd1 (by simp [am_len])) rfl k)
  · rename_i n
    exact am_pure (hK _ _ _ _ h) (am_s_p (am_si _)) (fun p l e R s m args below meth c H locs cells slots Q lsA ν hx hb ho hts k => lv_bipush hx hb (hd1 (by simp [am_len])) rfl k)
  · rename_i n
    exact am_pure (hK _ _ _ _ h) (am_s_p (am_si _)) (fun p l e R s m args below meth c H locs cells slots Q lsA ν hx hb ho hts k => lv_sipush hx hb (hd1 (by simp [am_len])) rfl k)
  · rename_i n
    exact am_pure (hK _ _ _ _ h) (am_s_p (am_sl _)) (fun p l e R s m args below meth c H locs cells slots Q lsA ν hx hb ho hts k => lv_lconst hx hb (hd1 (by simp [am_len])) rfl k)
  · skip
    exact am_pure (hK _ _ _ _ h) (am_s_p am_sn) (fun p l e R s m args below meth c H locs cells slots Q lsA ν hx hb ho hts k => lv_null hx hb (hd1 (by simp [am_len]))  k)
  · rename_i k
    split at h
    · rename_i x hx0
      exact am_load hx0 (hK _ _ _ _ h) (fun p l e R s m args below meth c H locs cells slots Q lsA ν hx hb hl k => lv_iload_n hx hb (hd1 (by simp [am_len])) rfl hl k)
    · exact h.elim
  · rename_i k
    split at h
    · rename_i x hx0
      exact am_load hx0 (hK _ _ _ _ h) (fun p l e R s m args below meth c H locs cells slots Q lsA ν hx hb hl k => lv_iload hx hb (hd1 (by simp [am_len]))  hl k)
    · exact h.elim
  · rename_i k
    split at h
    · rename_i x hx0
      exact am_load hx0 (hK _ _ _ _ h) (fun p l e R s m args below meth c H locs cells slots Q lsA ν hx hb hl k => lv_lload_n hx hb (hd1 (by simp [am_len])) rfl hl k)
    · exact h.elim
  · rename_i k
    split at h
    · rename_i x hx0
      exact am_load hx0 (hK _ _ _ _ h) (fun p l e R s m args below meth c H locs cells slots Q lsA ν hx hb hl k => lv_lload hx hb (hd1 (by simp [am_len]))  hl k)
    · exact h.elim
  · rename_i k
    split at h
    · rename_i x hx0
      exact am_load hx0 (hK _ _ _ _ h) (fun p l e R s m args below meth c H locs cells slots Q lsA ν hx hb hl k => lv_aload_n hx hb (hd1 (by simp [am_len])) rfl hl k)
    · rename_i hx0
      exact am_load hx0 (hK _ _ _ _ h) (fun p l e R s m args below meth c H locs cells slots Q lsA ν hx hb hl k => lv_aload_nN hx hb (hd1 (by simp [am_len])) rfl hl k)
    · exact h.elim
  · rename_i k
    split at h
    · rename_i x hx0
      exact am_load hx0 (hK _ _ _ _ h) (fun p l e R s m args below meth c H locs cells slots Q lsA ν hx hb hl k => lv_aload hx hb (hd1 (by simp [am_len]))  hl k)
    · rename_i hx0
      exact am_load hx0 (hK _ _ _ _ h) (fun p l e R s m args below meth c H locs cells slots Q lsA ν hx hb hl k => lv_aloadN hx hb (hd1 (by simp [am_len]))  hl k)
    · exact h.elim
  · rename_i k
    split at h
    · rename_i x r
      cases hb0 : Nat.blt (k : Nat) ls.length with
      | false => rw [hb0] at h; exact h.elim
      | true =>
        rw [hb0, cond_true] at h
        exact am_store1 (i := (k : Nat)) (Nat.le_of_ble_eq_true hb0) (fun _ hs _ => hs _ List.mem_cons_self) am_s_0 (hK _ _ _ _ h) (fun p l e R s m args below meth c H locs cells slots Q lsA ν hx hb hh hi kk => lv_istore_n hx hb (hd1 (by simp [am_len])) rfl hh hi rfl kk)
    · exact h.elim
  · rename_i k
    split at h
    · rename_i x r
      cases hb0 : Nat.blt k ls.length with
      | false => rw [hb0] at h; exact h.elim
      | true =>
        rw [hb0, cond_true] at h
        exact am_store1 (i := k) (Nat.le_of_ble_eq_true hb0) (fun _ hs _ => hs _ List.mem_cons_self) am_s_0 (hK _ _ _ _ h) (fun p l e R s m args below meth c H locs cells slots Q lsA ν hx hb hh hi kk => lv_istore hx hb (hd1 (by simp [am_len]))  hh hi rfl kk)
    · exact h.elim
  · rename_i k
    split at h
    · rename_i x r
      cases hb0 : Nat.blt ((k : Nat) + 1) ls.length with
      | false => rw [hb0] at h; exact h.elim
      | true =>
        rw [hb0, cond_true] at h
        exact am_store2 (i := (k : Nat)) (Nat.le_of_ble_eq_true hb0) (am_sl _) am_s_0 (hK _ _ _ _ h) (fun p l e R s m args below meth c H locs cells slots Q lsA ν hx hb hh hi kk => lv_lstore_n hx hb (hd1 (by simp [am_len])) rfl hh hi rfl kk)
    · exact h.elim
  · rename_i k
    split at h
    · rename_i x r
      cases hb0 : Nat.blt (k + 1) ls.length with
      | false => rw [hb0] at h; exact h.elim
      | true =>
        rw [hb0, cond_true] at h
        exact am_store2 (i := k) (Nat.le_of_ble_eq_true hb0) (am_sl _) am_s_0 (hK _ _ _ _ h) (fun p l e R s m args below meth c H locs cells slots Q lsA ν hx hb hh hi kk => lv_lstore hx hb (hd1 (by simp [am_len]))  hh hi rfl kk)
    · exact h.elim
  · rename_i k
    split at h
    · rename_i x r
      cases hb0 : Nat.blt (k : Nat) ls.length with
      | false => rw [hb0] at h; exact h.elim
      | true =>
        rw [hb0, cond_true] at h
        exact am_store1 (i := (k : Nat)) (Nat.le_of_ble_eq_true hb0) (fun _ hs _ => hs _ List.mem_cons_self) am_s_0 (hK _ _ _ _ h) (fun p l e R s m args below meth c H locs cells slots Q lsA ν hx hb hh hi kk => lv_astore_n hx hb (hd1 (by simp [am_len])) rfl hh hi rfl kk)
    · rename_i r
      cases hb0 : Nat.blt (k : Nat) ls.length with
      | false => rw [hb0] at h; exact h.elim
      | true =>
        rw [hb0, cond_true] at h
        exact am_store1 (i := (k : Nat)) (Nat.le_of_ble_eq_true hb0) (fun _ hs _ => hs _ List.mem_cons_self) am_s_0 (hK _ _ _ _ h) (fun p l e R s m args below meth c H locs cells slots Q lsA ν hx hb hh hi kk => lv_astore_nN hx hb (hd1 (by simp [am_len])) rfl hh hi rfl kk)
    · exact h.elim
  · rename_i k
    split at h
    · rename_i x r
      cases hb0 : Nat.blt k ls.length with
      | false => rw [hb0] at h; exact h.elim
      | true =>
        rw [hb0, cond_true] at h
        exact am_store1 (i := k) (Nat.le_of_ble_eq_true hb0) (fun _ hs _ => hs _ List.mem_cons_self) am_s_0 (hK _ _ _ _ h) (fun p l e R s m args below meth c H locs cells slots Q lsA ν hx hb hh hi kk => lv_astore hx hb (hd1 (by simp [am_len]))  hh hi rfl kk)
    · rename_i r
      cases hb0 : Nat.blt k ls.length with
      | false => rw [hb0] at h; exact h.elim
      | true =>
        rw [hb0, cond_true] at h
        exact am_store1 (i := k) (Nat.le_of_ble_eq_true hb0) (fun _ hs _ => hs _ List.mem_cons_self) am_s_0 (hK _ _ _ _ h) (fun p l e R s m args below meth c H locs cells slots Q lsA ν hx hb hh hi kk => lv_astoreN hx hb (hd1 (by simp [am_len]))  hh hi rfl kk)
    · exact h.elim
  · rename_i k n
    split at h
    · rename_i x hx0
      refine am_store1 (i := k) (x := .int (x + Int32.ofInt n)) ((List.getElem?_eq_some_iff.mp hx0).1) (fun _ _ _ => am_si _ _) (fun _ hs => hs) (hK _ _ _ _ h) (fun p l e R s m args below meth c H locs cells slots Q lsA ν hx hb hh hi kk => ?_)
      obtain ⟨j, hj⟩ := List.getElem?_of_mem (am_prs_of (ν := ν) (k := 0) hx0)
      rw [Nat.zero_add] at hj
      exact lv_iinc hx hb (hd1 (by simp [am_len])) hh hj rfl hi rfl kk
    · exact h.elim
  · skip
    split at h
    · rename_i y x r
      exact am_pure (hK _ _ _ _ h) (am_s_2 (am_si _)) (fun p l e R s m args below meth c H locs cells slots Q lsA ν hx hb ho hts k => lv_iadd hx hb (hd1 (by simp [am_len]))  k)
    · exact h.elim
  · skip
    split at h
    · rename_i y x r
      exact am_pure (hK _ _ _ _ h) (am_s_2 (am_si _)) (fun p l e R s m args below meth c H locs cells slots Q lsA ν hx hb ho hts k => lv_isub hx hb (hd1 (by simp [am_len]))  k)
    · exact h.elim
  · skip
    split at h
    · rename_i y x r
      exact am_pure (hK _ _ _ _ h) (am_s_2 (am_si _)) (fun p l e R s m args below meth c H locs cells slots Q lsA ν hx hb ho hts k => lv_imul hx hb (hd1 (by simp [am_len]))  k)
    · exact h.elim
  · skip
    split at h
    · rename_i y x r
      exact am_pure (hK _ _ _ _ h) (am_s_2 (am_si _)) (fun p l e R s m args below meth c H locs cells slots Q lsA ν hx hb ho hts k => lv_iand hx hb (hd1 (by simp [am_len]))  k)
    · exact h.elim
  · skip
    split at h
    · rename_i y x r
      exact am_pure (hK _ _ _ _ h) (am_s_2 (am_si _)) (fun p l e R s m args below meth c H locs cells slots Q lsA ν hx hb ho hts k => lv_ior hx hb (hd1 (by simp [am_len]))  k)
    · exact h.elim
  · skip
    split at h
    · rename_i y x r
      exact am_pure (hK _ _ _ _ h) (am_s_2 (am_si _)) (fun p l e R s m args below meth c H locs cells slots Q lsA ν hx hb ho hts k => lv_ixor hx hb (hd1 (by simp [am_len]))  k)
    · exact h.elim
  · skip
    split at h
    · rename_i x r
      exact am_pure (hK _ _ _ _ h) (am_s_1 (am_si _)) (fun p l e R s m args below meth c H locs cells slots Q lsA ν hx hb ho hts k => lv_ineg hx hb (hd1 (by simp [am_len]))  k)
    · exact h.elim
  · skip
    split at h
    · rename_i y x r
      exact am_pure (hK _ _ _ _ h) (am_s_2 (am_sl _)) (fun p l e R s m args below meth c H locs cells slots Q lsA ν hx hb ho hts k => lv_ladd hx hb (hd1 (by simp [am_len]))  k)
    · exact h.elim
  · skip
    split at h
    · rename_i y x r
      exact am_pure (hK _ _ _ _ h) (am_s_2 (am_sl _)) (fun p l e R s m args below meth c H locs cells slots Q lsA ν hx hb ho hts k => lv_lsub hx hb (hd1 (by simp [am_len]))  k)
    · exact h.elim
  · skip
    split at h
    · rename_i y x r
      exact am_pure (hK _ _ _ _ h) (am_s_2 (am_sl _)) (fun p l e R s m args below meth c H locs cells slots Q lsA ν hx hb ho hts k => lv_land hx hb (hd1 (by simp [am_len]))  k)
    · exact h.elim
  · skip
    split at h
    · rename_i y x r
      exact am_pure (hK _ _ _ _ h) (am_s_2 (am_sl _)) (fun p l e R s m args below meth c H locs cells slots Q lsA ν hx hb ho hts k => lv_lor hx hb (hd1 (by simp [am_len]))  k)
    · exact h.elim
  · skip
    split at h
    · rename_i y x r
      exact am_pure (hK _ _ _ _ h) (am_s_2 (am_si _)) (fun p l e R s m args below meth c H locs cells slots Q lsA ν hx hb ho hts k => lv_ishl hx hb (hd1 (by simp [am_len]))  k)
    · exact h.elim
  · skip
    split at h
    · rename_i y x r
      exact am_pure (hK _ _ _ _ h) (am_s_2 (am_si _)) (fun p l e R s m args below meth c H locs cells slots Q lsA ν hx hb ho hts k => lv_ishr hx hb (hd1 (by simp [am_len]))  k)
    · exact h.elim
  · skip
    split at h
    · rename_i y x r
      exact am_pure (hK _ _ _ _ h) (am_s_2 (am_si _)) (fun p l e R s m args below meth c H locs cells slots Q lsA ν hx hb ho hts k => lv_iushr hx hb (hd1 (by simp [am_len])) rfl k)
    · exact h.elim
  · skip
    split at h
    · rename_i y x r
      exact am_pure (hK _ _ _ _ h) (am_s_2 (am_sl _)) (fun p l e R s m args below meth c H locs cells slots Q lsA ν hx hb ho hts k => lv_lshl hx hb (hd1 (by simp [am_len])) rfl k)
    · exact h.elim
  · skip
    split at h
    · rename_i y x r
      exact am_pure (hK _ _ _ _ h) (am_s_2 (am_sl _)) (fun p l e R s m args below meth c H locs cells slots Q lsA ν hx hb ho hts k => lv_lshr hx hb (hd1 (by simp [am_len])) rfl k)
    · exact h.elim
  · skip
    split at h
    · rename_i y x r
      exact am_pure (hK _ _ _ _ h) (am_s_2 (am_sl _)) (fun p l e R s m args below meth c H locs cells slots Q lsA ν hx hb ho hts k => lv_lushr hx hb (hd1 (by simp [am_len])) rfl k)
    · exact h.elim
  · skip
    split at h
    · rename_i x r
      exact am_pure (hK _ _ _ _ h) (am_s_1 (am_sl _)) (fun p l e R s m args below meth c H locs cells slots Q lsA ν hx hb ho hts k => lv_i2l hx hb (hd1 (by simp [am_len])) rfl k)
    · exact h.elim
  · skip
    split at h
    · rename_i x r
      exact am_pure (hK _ _ _ _ h) (am_s_1 (am_si _)) (fun p l e R s m args below meth c H locs cells slots Q lsA ν hx hb ho hts k => lv_l2i hx hb (hd1 (by simp [am_len])) rfl k)
    · exact h.elim
  · skip
    split at h
    · rename_i x r
      exact am_pure (hK _ _ _ _ h) (am_s_1 (am_si _)) (fun p l e R s m args below meth c H locs cells slots Q lsA ν hx hb ho hts k => lv_i2b hx hb (hd1 (by simp [am_len])) rfl k)
    · exact h.elim
  · skip
    split at h
    · rename_i x r
      exact am_pure (hK _ _ _ _ h) (am_s_1 (am_si _)) (fun p l e R s m args below meth c H locs cells slots Q lsA ν hx hb ho hts k => lv_i2c hx hb (hd1 (by simp [am_len])) rfl k)
    · exact h.elim
  · skip
    split at h
    · rename_i y x r
      exact am_pure (hK _ _ _ _ h) (am_s_2 (am_si _)) (fun p l e R s m args below meth c H locs cells slots Q lsA ν hx hb ho hts k => W.lcmp hx hb (hd1 (by simp [am_len]))  k)
    · exact h.elim
  · skip
    split at h
    · exact am_pure (hK _ _ _ _ h) am_s_d (fun p l e R s m args below meth c H locs cells slots Q lsA ν hx hb ho hts k => lv_dup hx hb (hd1 (by simp [am_len])) rfl k)
    · exact am_pure (hK _ _ _ _ h) am_s_d (fun p l e R s m args below meth c H locs cells slots Q lsA ν hx hb ho hts k => lv_dup hx hb (hd1 (by simp [am_len])) rfl k)
    · exact h.elim
  · skip
    split at h
    · exact am_pure (hK _ _ _ _ h) am_s_dd (fun p l e R s m args below meth c H locs cells slots Q lsA ν hx hb ho hts k => lv_dup2_11 hx hb (hd1 (by simp [am_len])) rfl rfl k)
    · exact h.elim
  · skip
    split at h
    · exact am_pure (hK _ _ _ _ h) am_s_0 (fun p l e R s m args below meth c H locs cells slots Q lsA ν hx hb ho hts k => lv_pop hx hb (hd1 (by simp [am_len])) rfl k)
    · exact am_pure (hK _ _ _ _ h) am_s_0 (fun p l e R s m args below meth c H locs cells slots Q lsA ν hx hb ho hts k => lv_pop hx hb (hd1 (by simp [am_len])) rfl k)
    · exact am_pure (hK _ _ _ _ h) am_s_0 (fun p l e R s m args below meth c H locs cells slots Q lsA ν hx hb ho hts k => lv_pop hx hb (hd1 (by simp [am_len])) rfl k)
    · exact h.elim
  · rename_i off
    split at h
    · rename_i x r
      exact am_two (Decidable.em (x = 0)) (fun z => hK _ _ _ _ (h.1 z)) (fun z => hK _ _ _ _ (h.2 z)) am_s_0 (fun p l e R s m args below meth c H locs cells slots Q lsA ν hx hb k1 k2 => lv_if_eq hx hb (hd1 (by simp [am_len])) (am_tg_ok hio) k1 k2)
    · exact h.elim
  · rename_i off
    split at h
    · rename_i x r
      exact am_two ((Decidable.em (x = 0)).symm) (fun z => hK _ _ _ _ (h.1 z)) (fun z => hK _ _ _ _ (h.2 z)) am_s_0 (fun p l e R s m args below meth c H locs cells slots Q lsA ν hx hb k1 k2 => lv_if_ne hx hb (hd1 (by simp [am_len])) (am_tg_ok hio) k1 k2)
    · exact h.elim
  · rename_i off
    split at h
    · rename_i x r
      exact am_two (Decidable.em (x < 0)) (fun z => hK _ _ _ _ (h.1 z)) (fun z => hK _ _ _ _ (h.2 z)) am_s_0 (fun p l e R s m args below meth c H locs cells slots Q lsA ν hx hb k1 k2 => lv_if_lt hx hb (hd1 (by simp [am_len])) (am_tg_ok hio) k1 k2)
    · exact h.elim
  · rename_i off
    split at h
    · rename_i x r
      exact am_two (Decidable.em ((0 : Int32) ≤ x)) (fun z => hK _ _ _ _ (h.1 z)) (fun z => hK _ _ _ _ (h.2 z)) am_s_0 (fun p l e R s m args below meth c H locs cells slots Q lsA ν hx hb k1 k2 => lv_if_ge hx hb (hd1 (by simp [am_len])) (am_tg_ok hio) k1 k2)
    · exact h.elim
  · rename_i off
    split at h
    · rename_i x r
      exact am_two (Decidable.em ((0 : Int32) < x)) (fun z => hK _ _ _ _ (h.1 z)) (fun z => hK _ _ _ _ (h.2 z)) am_s_0 (fun p l e R s m args below meth c H locs cells slots Q lsA ν hx hb k1 k2 => lv_if_gt hx hb (hd1 (by simp [am_len])) (am_tg_ok hio) k1 k2)
    · exact h.elim
  · rename_i off
    split at h
    · rename_i x r
      exact am_two (Decidable.em (x ≤ 0)) (fun z => hK _ _ _ _ (h.1 z)) (fun z => hK _ _ _ _ (h.2 z)) am_s_0 (fun p l e R s m args below meth c H locs cells slots Q lsA ν hx hb k1 k2 => lv_if_le hx hb (hd1 (by simp [am_len])) (am_tg_ok hio) k1 k2)
    · exact h.elim
  · rename_i off
    split at h
    · rename_i y x r
      exact am_two (Decidable.em (x = y)) (fun z => hK _ _ _ _ (h.1 z)) (fun z => hK _ _ _ _ (h.2 z)) am_s_00 (fun p l e R s m args below meth c H locs cells slots Q lsA ν hx hb k1 k2 => lv_icmp_eq hx hb (hd1 (by simp [am_len])) (am_tg_ok hio) k1 k2)
    · exact h.elim
  · rename_i off
    split at h
    · rename_i y x r
      exact am_two ((Decidable.em (x = y)).symm) (fun z => hK _ _ _ _ (h.1 z)) (fun z => hK _ _ _ _ (h.2 z)) am_s_00 (fun p l e R s m args below meth c H locs cells slots Q lsA ν hx hb k1 k2 => lv_icmp_ne hx hb (hd1 (by simp [am_len])) (am_tg_ok hio) k1 k2)
    · exact h.elim
  · rename_i off
    split at h
    · rename_i y x r
      exact am_two (Decidable.em (x < y)) (fun z => hK _ _ _ _ (h.1 z)) (fun z => hK _ _ _ _ (h.2 z)) am_s_00 (fun p l e R s m args below meth c H locs cells slots Q lsA ν hx hb k1 k2 => lv_icmp_lt hx hb (hd1 (by simp [am_len])) (am_tg_ok hio) k1 k2)
    · exact h.elim
  · rename_i off
    split at h
    · rename_i y x r
      exact am_two (Decidable.em (y ≤ x)) (fun z => hK _ _ _ _ (h.1 z)) (fun z => hK _ _ _ _ (h.2 z)) am_s_00 (fun p l e R s m args below meth c H locs cells slots Q lsA ν hx hb k1 k2 => lv_icmp_ge hx hb (hd1 (by simp [am_len])) (am_tg_ok hio) k1 k2)
    · exact h.elim
  · rename_i off
    split at h
    · rename_i y x r
      exact am_two (Decidable.em (y < x)) (fun z => hK _ _ _ _ (h.1 z)) (fun z => hK _ _ _ _ (h.2 z)) am_s_00 (fun p l e R s m args below meth c H locs cells slots Q lsA ν hx hb k1 k2 => lv_icmp_gt hx hb (hd1 (by simp [am_len])) (am_tg_ok hio) k1 k2)
    · exact h.elim
  · rename_i off
    split at h
    · rename_i y x r
      exact am_two (Decidable.em (x ≤ y)) (fun z => hK _ _ _ _ (h.1 z)) (fun z => hK _ _ _ _ (h.2 z)) am_s_00 (fun p l e R s m args below meth c H locs cells slots Q lsA ν hx hb k1 k2 => lv_icmp_le hx hb (hd1 (by simp [am_len])) (am_tg_ok hio) k1 k2)
    · exact h.elim
  · rename_i off
    exact am_pure (hK _ _ _ _ h) (fun _ hs => hs) (fun p l e R s m args below meth c H locs cells slots Q lsA ν hx hb ho hts k => lv_goto hx hb (hd1 (by simp [am_len])) (am_tg_ok hio) k)
  · rename_i off
    split at h
    · exact am_pure (hK _ _ _ _ h) am_s_0 (fun p l e R s m args below meth c H locs cells slots Q lsA ν hx hb ho hts k => lv_ifnull hx hb (hd1 (by simp [am_len])) k)
    · exact am_pure (hK _ _ _ _ h) am_s_0 (fun p l e R s m args below meth c H locs cells slots Q lsA ν hx hb ho hts k => lv_ifnullN hx hb (hd1 (by simp [am_len])) (am_tg_ok hio) k)
    · exact h.elim
  · rename_i off
    split at h
    · exact am_pure (hK _ _ _ _ h) am_s_0 (fun p l e R s m args below meth c H locs cells slots Q lsA ν hx hb ho hts k => lv_ifnonnull hx hb (hd1 (by simp [am_len])) (am_tg_ok hio) k)
    · exact am_pure (hK _ _ _ _ h) am_s_0 (fun p l e R s m args below meth c H locs cells slots Q lsA ν hx hb ho hts k => lv_ifnonnullN hx hb (hd1 (by simp [am_len])) k)
    · exact h.elim
  · rename_i dflt lo hi offs
    split at h
    · rename_i x r
      obtain ⟨g1, g2, g3, g4, g5⟩ := hio
      by_cases hout : x.toInt < lo ∨ hi < x.toInt
      · exact am_pure (hK _ _ _ _ (h.1 hout)) am_s_0 (fun p l e R s m args below meth c H locs cells slots Q lsA ν hx hb ho hts k => lv_tableOut hx hb hd2 hout (am_tg_ok g1) k)
      · have h1 : ¬ x.toInt < lo := fun z => hout (Or.inl z)
        have h2 : ¬ hi < x.toInt := fun z => hout (Or.inr z)
        obtain ⟨j, hj⟩ : ∃ j : Nat, x.toInt = lo + j := ⟨(x.toInt - lo).toNat, by omega⟩
        have hjs : j < offs.size := by omega
        have hxe : x = Int32.ofInt (lo + j) := by rw [← hj, Int32.ofInt_toInt]
        refine am_pure (hK _ _ _ _ (h.2 j hjs hxe)) am_s_0 (fun p l e R s m args below meth c H locs cells slots Q lsA ν hx hb ho hts k => lv_tableIn hx hb hd2 h1 h2 ?_ (am_tg_ok (g2 j hjs)) k)
        rw [show (x.toInt - lo).toNat = j by omega]
        simp [Array.getD, hjs]
    · exact h.elim
  · rename_i idx
    split at h
    · rename_i v hv
      exact am_pure (hK _ _ _ _ h) (am_s_p (am_si _)) (fun p l e R s m args below meth c H locs cells slots Q lsA ν hx hb ho hts k => lv_ldc hx hb ho (hts _ (h32 _ (am_lk_mem hv))) (hd1 (by simp [am_len])) k)
    · split at h
      · rename_i k hk
        obtain ⟨hk3, tx, hmem⟩ := htx _ (am_lk_mem hk)
        exact am_ldcS hk3 hmem (hd1 (by simp [am_len])) (hK _ _ _ _ h)
      · exact h.elim
  · rename_i idx
    split at h
    · rename_i v hv
      exact am_pure (hK _ _ _ _ h) (am_s_p (am_si _)) (fun p l e R s m args below meth c H locs cells slots Q lsA ν hx hb ho hts k => lv_ldcw hx hb ho (hts _ (h32 _ (am_lk_mem hv))) (hd1 (by simp [am_len])) k)
    · exact h.elim
  · rename_i idx
    split at h
    · rename_i v hv
      exact am_pure (hK _ _ _ _ h) (am_s_p (am_sl _)) (fun p l e R s m args below meth c H locs cells slots Q lsA ν hx hb ho hts k => lv_ldc2 hx hb ho (hts _ (h64 _ (am_lk_mem hv))) (hd1 (by simp [am_len])) k)
    · exact h.elim
  · rename_i idx
    split at h
    · rename_i ci k tag hv
      have hf := hfl _ (am_lk_mem hv)
      dsimp only at hf
      split at h
      · rename_i n r
        cases h7 : Nat.beq ci 7 with
        | true =>
          rw [h7, cond_true] at h
          have e7 : ci = 7 := Nat.eq_of_beq_eq_true h7
          subst e7
          cases h2 : Nat.beq k 2 with
          | true =>
            rw [h2, cond_true] at h
            have e2 : k = 2 := Nat.eq_of_beq_eq_true h2
            subst e2
            exact am_getQ hf (hd1 (by simp [am_len])) h.1 (fun z => hK _ _ _ _ (h.2.1 z)) (fun a z => hK _ _ _ _ (h.2.2 a z))
          | false =>
            rw [h2, cond_false] at h
            exact am_getT hf (hd1 (by simp [am_len])) h.1 (fun z => by rw [z] at h2; cases h2) (hK _ _ _ _ h.2)
        | false =>
          rw [h7, cond_false] at h
          split at h
          · rename_i hfd
            exact am_getF hf (hd1 (by simp [am_len])) hfd (hK _ _ _ _ h)
          · rename_i a hfd
            exact am_getF hf (hd1 (by simp [am_len])) hfd (hK _ _ _ _ h)
          · exact h.elim
      · exact h.elim
    · exact h.elim
  · rename_i idx
    split at h
    · rename_i ci k tag hv
      have hf := hfl _ (am_lk_mem hv)
      dsimp only at hf
      have hpt := hio ci k tag hv
      split at h
      · rename_i v n r
        cases h7 : Nat.beq ci 7 with
        | true =>
          rw [h7, cond_true] at h
          have e7 : ci = 7 := Nat.eq_of_beq_eq_true h7
          subst e7
          obtain ⟨p1, p2, p3, p4⟩ := hpt rfl
          cases h2 : Nat.beq tag 2 with
          | false => rw [h2] at h; exact h.2.elim
          | true =>
            have e2 : tag = 2 := Nat.eq_of_beq_eq_true h2
            subst e2
            rw [h2, cond_true] at h
            exact am_putT hf (hd1 (by simp [am_len])) p1 p2 h.1 (hK _ _ _ _ h.2)
        | false =>
          rw [h7, cond_false] at h
          split at h
          · rename_i hfd
            split at h
            · exact am_putF hf (hd1 (by simp [am_len])) hfd (Or.inl rfl) (hK _ _ _ _ h)
            · exact am_putF hf (hd1 (by simp [am_len])) hfd (Or.inr ⟨rfl, h.1⟩) (hK _ _ _ _ h.2)
            · exact h.elim
          · exact h.elim
      · rename_i a n r
        cases h7 : Nat.beq ci 7 with
        | false => rw [h7] at h; exact h.elim
        | true =>
          rw [h7, cond_true] at h
          have e7 : ci = 7 := Nat.eq_of_beq_eq_true h7
          subst e7
          obtain ⟨p1, p2, p3, p4⟩ := hpt rfl
          cases h2 : Nat.beq tag 3 with
          | false => rw [h2] at h; exact h.2.elim
          | true =>
            have e2 : tag = 3 := Nat.eq_of_beq_eq_true h2
            subst e2
            rw [h2, cond_true] at h
            have ek := p3 rfl
            subst ek
            exact am_putQ hf (hd1 (by simp [am_len])) p1 p2 h.1 (hK _ _ _ _ h.2.2) h.2.1
      · exact h.elim
    · exact h.elim
  · skip
    split at h
    · split at h
      · rename_i hfa
        exact am_iald (hd1 (by simp [am_len])) hfa h.1 (hK _ _ _ _ h.2)
      · exact h.elim
    · exact h.elim
  · skip
    split at h
    · split at h
      · rename_i hfa
        exact am_bald (Or.inl rfl) (hd1 (by simp [am_len])) hfa h.1 (hK _ _ _ _ h.2)
      · rename_i hfa
        exact am_bald (Or.inr rfl) (hd1 (by simp [am_len])) hfa h.1 (hK _ _ _ _ h.2)
      · exact h.elim
    · exact h.elim
  · skip
    split at h
    · split at h
      · rename_i hfa
        exact am_lald (hd1 (by simp [am_len])) hfa h.1 (hK _ _ _ _ h.2)
      · exact h.elim
    · exact h.elim
  · skip
    split at h
    · exact am_aald (hd1 (by simp [am_len])) h.1 h.2.1 (fun z => hK _ _ _ _ (h.2.2.1 z)) (fun t z => hK _ _ _ _ (h.2.2.2 t z))
    · exact h.elim
  · skip
    split at h
    · split at h
      · rename_i hfa
        exact am_iast (hd1 (by simp [am_len])) hfa h.1 (hK _ _ _ _ h.2)
      · exact h.elim
    · exact h.elim
  · skip
    split at h
    · split at h
      · rename_i hfa
        exact am_bast (Or.inl ⟨rfl, rfl⟩) (hd1 (by simp [am_len])) hfa h.1 (hK _ _ _ _ h.2)
      · rename_i hfa
        exact am_bast (Or.inr ⟨rfl, rfl⟩) (hd1 (by simp [am_len])) hfa h.1 (hK _ _ _ _ h.2)
      · exact h.elim
    · exact h.elim
  · skip
    split at h
    · split at h
      · rename_i hfa
        exact am_last (hd1 (by simp [am_len])) hfa h.1 (hK _ _ _ _ h.2)
      · exact h.elim
    · exact h.elim
  · skip
    split at h
    · exact am_aast (hd1 (by simp [am_len])) h.1 h.2.1 h.2.2.1 (hK _ _ _ _ h.2.2.2)
    · exact am_aastN (hd1 (by simp [am_len])) h.1 h.2.1 (hK _ _ _ _ h.2.2)
    · exact h.elim
  · skip
    split at h
    · exact am_alen (hd1 (by simp [am_len])) h.1 (hK _ _ _ _ h.2)
    · exact h.elim
  · rename_i idx
    cases hb0 : (am_nw I).elem idx with
    | false => rw [hb0] at h; exact h.elim
    | true =>
      rw [hb0, cond_true] at h
      exact am_new hT (hnw _ (List.elem_iff.mp hb0)) (hd1 (by simp [am_len])) h.1 h.2.1 (hK _ _ _ _ h.2.2)
  · rename_i idx
    cases hb0 : (am_nw I).elem idx with
    | false => rw [hb0] at h; exact h.elim
    | true =>
      rw [hb0, cond_true] at h
      split at h
      · exact am_newq (hnw _ (List.elem_iff.mp hb0)) (hd1 (by simp [am_len])) h.1 h.2.1 h.2.2.1 h.2.2.2.1 (hK _ _ _ _ h.2.2.2.2)
      · exact h.elim
  · rename_i idx
    split at h
    · rename_i mj n ci hv
      have hmk := (hml _ (am_lk_mem hv)).1 (show 0 < 4 by decide)
      cases hb0 : (Nat.ble (am_cat (st.drop n)) 8 && Nat.ble n st.length) with
      | false => rw [hb0] at h; exact h.elim
      | true =>
        rw [hb0, cond_true] at h
        obtain ⟨r, σ1, hC, hk⟩ := h
        have hb1 := Bool.and_eq_true_iff.mp hb0
        exact am_callS hmk (hd1 (by simp [am_len])) (Nat.le_of_ble_eq_true hb1.2) (Nat.le_of_ble_eq_true hb1.1) hC (hK _ _ _ _ hk)
    · rename_i hv
      have hcw := (hml _ (am_lk_mem hv)).2.1 rfl
      split at h
      · split at h
        · rename_i ha hb
          obtain ⟨g1, g2, g3, g4, g5, g6⟩ := h
          cases hb0 : Nat.ble (am_cat _) 0 with
          | false => rw [hb0] at g6; exact g6.elim
          | true => rw [hb0, cond_true] at g6; exact am_copyi hcw (hd1 (by simp [am_len])) ha hb g1 g2 g3 g4 g5 (Nat.le_of_ble_eq_true hb0) (hK _ _ _ _ g6)
        · rename_i ha hb
          obtain ⟨g1, g2, g3, g4, g5, g6⟩ := h
          cases hb0 : Nat.ble (am_cat _) 0 with
          | false => rw [hb0] at g6; exact g6.elim
          | true => rw [hb0, cond_true] at g6; exact am_copyl hcw (hd1 (by simp [am_len])) ha hb g1 g2 g3 g4 g5 (Nat.le_of_ble_eq_true hb0) (hK _ _ _ _ g6)
        · exact h.elim
      · exact h.elim
    · rename_i hv
      have hcw := (hml _ (am_lk_mem hv)).2.2.2.1 rfl
      split at h
      · rename_i y x r
        cases hb0 : Nat.ble (am_cat r) 8 with
        | false => rw [hb0] at h; exact h.elim
        | true => rw [hb0, cond_true] at h; exact am_max hcw (hd1 (by simp [am_len])) (Nat.le_of_ble_eq_true hb0) (hK _ _ _ _ h)
      · exact h.elim
    · rename_i hv
      have hcw := (hml _ (am_lk_mem hv)).2.2.2.2 rfl
      split at h
      · rename_i y x r
        cases hb0 : Nat.ble (am_cat r) 8 with
        | false => rw [hb0] at h; exact h.elim
        | true => rw [hb0, cond_true] at h; exact am_min hcw (hd1 (by simp [am_len])) (Nat.le_of_ble_eq_true hb0) (hK _ _ _ _ h)
      · exact h.elim
    · exact h.elim
  · rename_i idx
    split at h
    · rename_i mj n ci hv
      have hmk := (hml _ (am_lk_mem hv)).1 (show 1 < 4 by decide)
      split at h
      · rename_i o r hst
        cases hb0 : (am_ob Λ o ci && (Nat.ble (am_cat r) 8 && Nat.ble n st.length)) with
        | false => rw [hb0] at h; exact h.elim
        | true =>
          rw [hb0, cond_true] at h
          obtain ⟨q, σ1, hC, hk⟩ := h
          have hb1 := Bool.and_eq_true_iff.mp hb0
          have hb2 := Bool.and_eq_true_iff.mp hb1.2
          exact am_callV (Or.inl ⟨rfl, hb1.1⟩) hmk (hd1 (by simp [am_len])) (Nat.le_of_ble_eq_true hb2.2) hst (Nat.le_of_ble_eq_true hb2.1) hC (hK _ _ _ _ hk)
      · exact h.elim
    · rename_i mj n ci hv
      have hmk := (hml _ (am_lk_mem hv)).1 (show 3 < 4 by decide)
      split at h
      · rename_i o r hst
        cases hb0 : ((Nat.ble am_sb o && Nat.blt o (am_sb + 3)) && (Nat.ble (am_cat r) 8 && Nat.ble n st.length)) with
        | false => rw [hb0] at h; exact h.elim
        | true =>
          rw [hb0, cond_true] at h
          obtain ⟨q, σ1, hC, hk⟩ := h
          have hb1 := Bool.and_eq_true_iff.mp hb0
          have hb2 := Bool.and_eq_true_iff.mp hb1.2
          have hb3 := Bool.and_eq_true_iff.mp hb1.1
          exact am_callV (Or.inr ⟨rfl, Nat.le_of_ble_eq_true hb3.1, Nat.le_of_ble_eq_true hb3.2⟩) hmk (hd1 (by simp [am_len])) (Nat.le_of_ble_eq_true hb2.2) hst (Nat.le_of_ble_eq_true hb2.1) hC (hK _ _ _ _ hk)
      · exact h.elim
    · exact h.elim
  · rename_i idx
    split at h
    · rename_i mj n ci hv
      have hmk := (hml _ (am_lk_mem hv)).1 (show 2 < 4 by decide)
      split at h
      · rename_i o r hst
        cases hb0 : (Nat.ble (am_cat r) 8 && Nat.ble n st.length) with
        | false => rw [hb0] at h; exact h.elim
        | true =>
          rw [hb0, cond_true] at h
          obtain ⟨q, σ1, hC, hk⟩ := h
          have hb2 := Bool.and_eq_true_iff.mp hb0
          exact am_callI hmk (hd1 (by simp [am_len])) (Nat.le_of_ble_eq_true hb2.2) hst (Nat.le_of_ble_eq_true hb2.1) hC (hK _ _ _ _ hk)
      · exact h.elim
    · rename_i hv
      have hcw := (hml _ (am_lk_mem hv)).2.2.1 rfl
      split at h
      · rename_i r
        cases hb0 : Nat.ble (am_cat r) 8 with
        | false => rw [hb0] at h; exact h.elim
        | true => rw [hb0, cond_true] at h; exact am_oinit (hd1 (by simp [am_len])) hcw.1 hcw.2.1 hcw.2.2 (Nat.le_of_ble_eq_true hb0) (hK _ _ _ _ h)
      · exact h.elim
    · exact h.elim
  · skip
    split at h
    · obtain ⟨h1, rfl, rfl⟩ := h
      exact am_iret (hd1 (by simp [am_len])) h1
    · exact h.elim
  · skip
    split at h
    · obtain ⟨h1, rfl, rfl⟩ := h
      exact am_lret (hd1 (by simp [am_len])) h1
    · exact h.elim
  · skip
    obtain ⟨rt, hr1, hr2⟩ := hio
    split at h
    · obtain ⟨rfl, rfl⟩ := h
      exact am_aret (hd1 (by simp [am_len])) hr1 hr2 (Or.inr ⟨_, rfl⟩)
    · obtain ⟨rfl, rfl⟩ := h
      exact am_aret (hd1 (by simp [am_len])) hr1 hr2 (Or.inl rfl)
    · exact h.elim
  · skip
    split at h
    · obtain ⟨rfl, rfl⟩ := h
      exact am_vret (hd1 (by simp [am_len])) hio
    · exact h.elim
  · exact h.elim
/-- k steps are sound -/
theorem am_run (hI : am_okI MT I) (hT : am_tok) : ∀ (k : Nat) {pc : Nat} {ls : List (Option Value)} {st : List Value} {σ : am_S}, am_wp Λ (fun mj => am_Ctr Λ (MT mj) d) I r0 σ0 k pc ls st σ (fun pc ls st σ => am_E Λ I (d + 1) pc ls st σ r0 σ0) → am_E Λ I (d + 1) pc ls st σ r0 σ0
  | 0, _, _, _, _, h => h
  | k + 1, pc, ls, st, σ, h => by
    unfold am_wp at h
    split at h
    · rename_i i hi
      exact am_step hI hT (fun pc ls st σ z => am_run hI hT k z) (am_lk_mem hi) h
    · exact h.elim
end AMY
