/-! ===== the law's own instructions ===== -/
section LWR
variable {p : Program} {l : Launch} {e : Env} {s : State} {m : MethodId} {below : List Frame} {meth : Method} {c : Code} {b L : Nat} {xs : Nat → Int32} {g : am_G} {CB SB pc : Nat} {i : Int32} {st : List Value} {σx σm : am_S}
theorem lw_ld1 (C0 : lw_C p s m meth c b L xs g) (hd : decode code pc = .ok (.aload_n 1, 1)) (h : lw_E p l e s m below meth c b g CB SB (pc + 1) i (.ref 0 :: st) σx σm) : lw_E p l e s m below meth c b g CB SB pc i st σx σm :=
  lw_pure C0 h fun H locs cells slots Q lsA x y hl _ k => lv_aload_n C0.1.1 C0.1.2.1 hd rfl (lv_at hl 1 rfl) k
theorem lw_ld2 (C0 : lw_C p s m meth c b L xs g) (hd : decode code pc = .ok (.aload_n 2, 1)) (h : lw_E p l e s m below meth c b g CB SB (pc + 1) i (.ref 1 :: st) σx σm) : lw_E p l e s m below meth c b g CB SB pc i st σx σm :=
  lw_pure C0 h fun H locs cells slots Q lsA x y hl _ k => lv_aload_n C0.1.1 C0.1.2.1 hd rfl (lv_at hl 2 rfl) k
theorem lw_ld0 (C0 : lw_C p s m meth c b L xs g) (hd : decode code pc = .ok (.aload_n 0, 1)) (h : lw_E p l e s m below meth c b g CB SB (pc + 1) i (.ref 2 :: st) σx σm) : lw_E p l e s m below meth c b g CB SB pc i st σx σm :=
  lw_pure C0 h fun H locs cells slots Q lsA x y hl _ k => lv_aload_n C0.1.1 C0.1.2.1 hd rfl (lv_at hl 0 rfl) k
theorem lw_ldi (C0 : lw_C p s m meth c b L xs g) (hd : decode code pc = .ok (.iload_n 3, 1)) (h : lw_E p l e s m below meth c b g CB SB (pc + 1) i (.int i :: st) σx σm) : lw_E p l e s m below meth c b g CB SB pc i st σx σm :=
  lw_pure C0 h fun H locs cells slots Q lsA x y hl _ k => lv_iload_n C0.1.1 C0.1.2.1 hd rfl (lv_at hl 3 rfl) k
theorem lw_ic (C0 : lw_C p s m meth c b L xs g) {n : Int} {v : Int32} (hd : decode code pc = .ok (.iconst n, 1)) (hv : Int32.ofInt n = v) (h : lw_E p l e s m below meth c b g CB SB (pc + 1) i (.int v :: st) σx σm) : lw_E p l e s m below meth c b g CB SB pc i st σx σm :=
  lw_pure C0 h fun H locs cells slots Q lsA x y hl _ k => lv_iconst C0.1.1 C0.1.2.1 hd hv k
theorem lw_bp (C0 : lw_C p s m meth c b L xs g) {n : Int} {v : Int32} (hd : decode code pc = .ok (.bipush n, 2)) (hv : (Int8.ofInt n).toInt32 = v) (h : lw_E p l e s m below meth c b g CB SB (pc + 2) i (.int v :: st) σx σm) : lw_E p l e s m below meth c b g CB SB pc i st σx σm :=
  lw_pure C0 h fun H locs cells slots Q lsA x y hl _ k => lv_bipush C0.1.1 C0.1.2.1 hd hv k
theorem lw_add (C0 : lw_C p s m meth c b L xs g) {v w : Int32} (hd : decode code pc = .ok (.iadd, 1)) (h : lw_E p l e s m below meth c b g CB SB (pc + 1) i (.int (v + w) :: st) σx σm) : lw_E p l e s m below meth c b g CB SB pc i (.int w :: .int v :: st) σx σm :=
  lw_pure C0 h fun H locs cells slots Q lsA x y hl _ k => lv_iadd C0.1.1 C0.1.2.1 hd k
theorem lw_sub (C0 : lw_C p s m meth c b L xs g) {v w : Int32} (hd : decode code pc = .ok (.isub, 1)) (h : lw_E p l e s m below meth c b g CB SB (pc + 1) i (.int (v - w) :: st) σx σm) : lw_E p l e s m below meth c b g CB SB pc i (.int w :: .int v :: st) σx σm :=
  lw_pure C0 h fun H locs cells slots Q lsA x y hl _ k => lv_isub C0.1.1 C0.1.2.1 hd k
theorem lw_and (C0 : lw_C p s m meth c b L xs g) {v w : Int32} (hd : decode code pc = .ok (.iand, 1)) (h : lw_E p l e s m below meth c b g CB SB (pc + 1) i (.int (v &&& w) :: st) σx σm) : lw_E p l e s m below meth c b g CB SB pc i (.int w :: .int v :: st) σx σm :=
  lw_pure C0 h fun H locs cells slots Q lsA x y hl _ k => lv_iand C0.1.1 C0.1.2.1 hd k
theorem lw_i2l (C0 : lw_C p s m meth c b L xs g) {v : Int32} (hd : decode code pc = .ok (.i2l, 1)) (h : lw_E p l e s m below meth c b g CB SB (pc + 1) i (.long v.toInt64 :: st) σx σm) : lw_E p l e s m below meth c b g CB SB pc i (.int v :: st) σx σm :=
  lw_pure C0 h fun H locs cells slots Q lsA x y hl _ k => lv_i2l C0.1.1 C0.1.2.1 hd rfl k
theorem lw_pop (C0 : lw_C p s m meth c b L xs g) {v : Int32} (hd : decode code pc = .ok (.pop, 1)) (h : lw_E p l e s m below meth c b g CB SB (pc + 1) i st σx σm) : lw_E p l e s m below meth c b g CB SB pc i (.int v :: st) σx σm :=
  lw_pure C0 h fun H locs cells slots Q lsA x y hl _ k => lv_pop C0.1.1 C0.1.2.1 hd rfl k
theorem lw_lshl (C0 : lw_C p s m meth c b L xs g) {v : Int64} {w : Int32} (hd : decode code pc = .ok (.lshl, 1)) (h : lw_E p l e s m below meth c b g CB SB (pc + 1) i (.long (v <<< (w.toInt64 &&& 63)) :: st) σx σm) : lw_E p l e s m below meth c b g CB SB pc i (.int w :: .long v :: st) σx σm :=
  lw_pure C0 h fun H locs cells slots Q lsA x y hl _ k => lv_lshl C0.1.1 C0.1.2.1 hd rfl k
theorem lw_land (C0 : lw_C p s m meth c b L xs g) {v w : Int64} (hd : decode code pc = .ok (.land, 1)) (h : lw_E p l e s m below meth c b g CB SB (pc + 1) i (.long (v &&& w) :: st) σx σm) : lw_E p l e s m below meth c b g CB SB pc i (.long w :: .long v :: st) σx σm :=
  lw_pure C0 h fun H locs cells slots Q lsA x y hl _ k => lv_land C0.1.1 C0.1.2.1 hd k
theorem lw_lor (C0 : lw_C p s m meth c b L xs g) {v w : Int64} (hd : decode code pc = .ok (.lor, 1)) (h : lw_E p l e s m below meth c b g CB SB (pc + 1) i (.long (v ||| w) :: st) σx σm) : lw_E p l e s m below meth c b g CB SB pc i (.long w :: .long v :: st) σx σm :=
  lw_pure C0 h fun H locs cells slots Q lsA x y hl _ k => lv_lor C0.1.1 C0.1.2.1 hd k
theorem lw_ldc2 (C0 : lw_C p s m meth c b L xs g) {idx : Nat} {v : Int64} (hw : Cond.constantLong R_law idx v ∈ am_W) (hd : decode code pc = .ok (.ldc2_w idx, 3)) (h : lw_E p l e s m below meth c b g CB SB (pc + 3) i (.long v :: st) σx σm) : lw_E p l e s m below meth c b g CB SB pc i st σx σm :=
  lw_pure C0 h fun H locs cells slots Q lsA x y hl _ k => lv_ldc2 C0.1.1 C0.1.2.1 C0.1.2.2.2.2.1 (C0.1.2.2.2.2.2.1 _ (am_W_in hw)) hd k
theorem lw_goto (C0 : lw_C p s m meth c b L xs g) {off : Int} {tgt : Nat} (hd : decode code pc = .ok (.goto off, 3)) (ht : (pc : Int) + off = (tgt : Int)) (h : lw_E p l e s m below meth c b g CB SB tgt i st σx σm) : lw_E p l e s m below meth c b g CB SB pc i st σx σm :=
  lw_pure C0 h fun H locs cells slots Q lsA x y hl _ k => lv_goto C0.1.1 C0.1.2.1 hd ht k
theorem lw_eq (C0 : lw_C p s m meth c b L xs g) {off : Int} {tgt : Nat} {v : Int32} (hd : decode code pc = .ok (.if_icmp .eq off, 3)) (ht : (pc : Int) + off = (tgt : Int)) (h : lw_E p l e s m below meth c b g CB SB tgt i st σx σm) : lw_E p l e s m below meth c b g CB SB pc i (.int v :: .int v :: st) σx σm :=
  lw_pure C0 h fun H locs cells slots Q lsA x y hl _ k => lv_icmp_eq C0.1.1 C0.1.2.1 hd ht (fun _ => k) (fun z => absurd rfl z)
theorem lw_sld (C0 : lw_C p s m meth c b L xs g) {j : Int32} (hin : vp_in j L) (hd : decode code pc = .ok (.iaload, 1)) (h : lw_E p l e s m below meth c b g CB SB (pc + 1) i (.int (xs j.toNatClampNeg) :: st) σx σm) : lw_E p l e s m below meth c b g CB SB pc i (.int j :: .ref 2 :: st) σx σm :=
  lw_pure C0 h fun H locs cells slots Q lsA x y hl hS k => va_sld C0.1.1 C0.1.2.1 C0.1.2.2.2.2.2.2.1 C0.1.2.2.2.2.2.2.2.1 (Nat.not_le.mpr C0.1.2.2.2.2.2.2.2.1) hS hin hd k
theorem lw_slen (C0 : lw_C p s m meth c b L xs g) (hd : decode code pc = .ok (.arraylength, 1)) (h : lw_E p l e s m below meth c b g CB SB (pc + 1) i (.int (nI L) :: st) σx σm) : lw_E p l e s m below meth c b g CB SB pc i (.ref 2 :: st) σx σm :=
  lw_pure C0 h fun H locs cells slots Q lsA x y hl hS k => va_slen C0.1.1 C0.1.2.1 C0.1.2.2.2.2.2.2.1 C0.1.2.2.2.2.2.2.2.1 (Nat.not_le.mpr C0.1.2.2.2.2.2.2.2.1) hS hd k
theorem lw_inc (C0 : lw_C p s m meth c b L xs g) {n : Int} {v : Int32} (hd : decode code pc = .ok (.iinc 3 n, 3)) (hv : i + Int32.ofInt n = v) (h : lw_E p l e s m below meth c b g CB SB (pc + 3) v st σx σm) : lw_E p l e s m below meth c b g CB SB pc i st σx σm := by
  intro H locs νx νm lsA Iv
  obtain ⟨i1, i2, i3, i4, i5, i6, i7, i8, i9, i11, i12⟩ := Iv
  refine lv_iinc (k := 3) C0.1.1 C0.1.2.1 hd i11 rfl hv (by decide) rfl fun lsB hB => ?_
  exact h H locs νx νm lsB ⟨i1, i2, i3, i4, i5, i6, i7, i8, i9, am_hsub hB (fun q hq => by
    rcases List.mem_cons.mp hq with rfl | hq
    · exact List.mem_cons_of_mem _ List.mem_cons_self
    · rcases List.mem_cons.mp hq with rfl | hq
      · exact List.mem_cons_of_mem _ (List.mem_cons_of_mem _ List.mem_cons_self)
      · rcases List.mem_cons.mp hq with rfl | hq
        · exact List.mem_cons_of_mem _ (List.mem_cons_of_mem _ (List.mem_cons_of_mem _ List.mem_cons_self))
        · rcases List.mem_cons.mp hq with rfl | hq
          · exact List.mem_cons_self
          · cases hq), i12⟩
theorem lw_gt (C0 : lw_C p s m meth c b L xs g) {off : Int} {tgt : Nat} {v w : Int32} (hd : decode code pc = .ok (.if_icmp .gt off, 3)) (ht : (pc : Int) + off = (tgt : Int)) (h1 : w < v → lw_E p l e s m below meth c b g CB SB tgt i st σx σm) (h2 : ¬ w < v → lw_E p l e s m below meth c b g CB SB (pc + 3) i st σx σm) : lw_E p l e s m below meth c b g CB SB pc i (.int w :: .int v :: st) σx σm := by
  by_cases hc : w < v
  · exact lw_pure C0 (h1 hc) fun H locs cells slots Q lsA x y hl _ k => lv_icmp_gt C0.1.1 C0.1.2.1 hd ht (fun _ => k) (fun z => absurd hc z)
  · exact lw_pure C0 (h2 hc) fun H locs cells slots Q lsA x y hl _ k => lv_icmp_gt C0.1.1 C0.1.2.1 hd ht (fun z => absurd z hc) (fun _ => k)
/-- one argument out of the script -/
theorem lw_arg (C0 : lw_C p s m meth c b L xs g) {n : Int} {j k : Nat} (hi : i = nI j) (hk : Int32.ofInt n = nI k) (hj : j + k < L) (hL : L ≤ 2560) (h0 : decode code pc = .ok (.aload_n 0, 1)) (h1 : decode code (pc + 1) = .ok (.iload_n 3, 1)) (h2 : decode code (pc + 1 + 1) = .ok (.iconst n, 1)) (h3 : decode code (pc + 1 + 1 + 1) = .ok (.iadd, 1)) (h4 : decode code (pc + 1 + 1 + 1 + 1) = .ok (.iaload, 1)) (h : lw_E p l e s m below meth c b g CB SB (pc + 1 + 1 + 1 + 1 + 1) i (.int (xs (j + k)) :: st) σx σm) : lw_E p l e s m below meth c b g CB SB pc i st σx σm := by
  refine lw_ld0 C0 h0 (lw_ldi C0 h1 (lw_ic C0 h2 hk (lw_add C0 h3 ?_)))
  rw [hi, nI_add] at *
  refine lw_sld C0 (vp_in_nI hj (by omega)) h4 ?_
  rw [nI_clamp (by omega)]
  exact h
theorem lw_end (C0 : lw_C p s m meth c b L xs g) (h0 : decode code pc = .ok (.iconst 1, 1)) (h1 : decode code (pc + 1) = .ok (.ireturn, 1)) : lw_E p l e s m below meth c b g CB SB pc i [] σx σm := by
  refine lw_ic C0 (v := 1) h0 rfl ?_
  intro H locs νx νm lsA Iv
  obtain ⟨i1, i2, i3, i4, i5, i6, i7, i8, i9, i11, i12, i13, i14, i15⟩ := Iv
  refine va_forget (fun q hq => i6.2.2 q hq) ?_
  refine W.widen (k := 600000) (n := 7302250) (by omega) (by omega) ?_
  exact lw_ret C0.1.1 C0.1.2.1 C0.1.2.2.1 C0.1.2.2.2.2.2.2.2.2.1 h1
end LWR
