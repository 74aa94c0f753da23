/-! ===== the String constants ===== -/
def ixF (c : Int32) : List Int32 → Nat → Int32
  | [], _ => -1
  | b :: l, k => if b = c then nI k else ixF c l (k + 1)
section AMT
variable {Λ : am_Lay} {I : am_I} {d pc : Nat} {ls : List (Option Value)} {st : List Value} {σ : am_S} {r0 : Option Value} {σ0 : am_S}
theorem am_sval {idx k : Nat} (hk : k < 3) (hl : Cond.fieldLink (am_y I).cls idx "java/lang/String" "value" "[B" ∈ am_W) (hd : decode (am_code I) pc = .ok (.getfield idx, 3)) (h : am_E Λ I d (pc + 3) ls (.ref (am_sb + (3 + k)) :: st) σ r0 σ0) : am_E Λ I d pc ls (.ref (am_sb + k) :: st) σ r0 σ0 := by
  refine ⟨h.1, fun p l e s m args below meth c g A ν0 n0 bc bs H locs ν lsA Cx Iv => ?_⟩
  have ok3 := Cx.2.2.2.2.2.2.2.2.1.2.2.1
  have k0 := h.2 p l e s m args below meth c g A ν0 n0 bc bs H locs ν lsA Cx (am_iv_st Iv fun v hv => by
    rcases List.mem_cons.mp hv with rfl | hv
    · exact Or.inr (Nat.le_add_right _ _)
    · exact Iv.2.2.2.2.1.2 v (List.mem_cons_of_mem _ hv))
  rw [List.map_cons, show am_tr ν (.ref (am_sb + (3 + k))) = .ref (g.2.2.2 k) from congrArg Value.ref ((Iv.2.2.2.2.2.2.2.2.2 (3 + k)).trans (ok3.2.2.1 k hk))] at k0
  rw [List.map_cons, show am_tr ν (.ref (am_sb + k)) = .ref (g.2.2.1 k) from congrArg Value.ref (Iv.2.2.2.2.2.2.2.2.2 k)]
  exact vk_getf Cx.1 Cx.2.1 (ok3.1.1 k hk).2.2.1 Iv.2.2.1 Cx.2.2.2.2.2.1 (Cx.2.2.2.2.2.2.1 _ hl) (fun _ z => z) hd k0
theorem am_scod {idx k : Nat} (hk : k < 3) (hl : Cond.fieldLink (am_y I).cls idx "java/lang/String" "coder" "B" ∈ am_W) (hd : decode (am_code I) pc = .ok (.getfield idx, 3)) (h : am_E Λ I d (pc + 3) ls (.int 0 :: st) σ r0 σ0) : am_E Λ I d pc ls (.ref (am_sb + k) :: st) σ r0 σ0 := by
  refine ⟨h.1, fun p l e s m args below meth c g A ν0 n0 bc bs H locs ν lsA Cx Iv => ?_⟩
  have ok3 := Cx.2.2.2.2.2.2.2.2.1.2.2.1
  have k0 := h.2 p l e s m args below meth c g A ν0 n0 bc bs H locs ν lsA Cx (am_iv_st Iv fun v hv => by
    rcases List.mem_cons.mp hv with rfl | hv
    · exact trivial
    · exact Iv.2.2.2.2.1.2 v (List.mem_cons_of_mem _ hv))
  rw [List.map_cons, show am_tr ν (.ref (am_sb + k)) = .ref (g.2.2.1 k) from congrArg Value.ref (Iv.2.2.2.2.2.2.2.2.2 k)]
  exact vk_getf Cx.1 Cx.2.1 (ok3.1.1 k hk).2.1 Iv.2.2.1 Cx.2.2.2.2.2.1 (Cx.2.2.2.2.2.2.1 _ hl) (fun _ z => z) hd k0
theorem am_scmp {idx : Nat} (hl : Cond.fieldLink (am_y I).cls idx "java/lang/String" "COMPACT_STRINGS" "Z" ∈ am_W) (hd : decode (am_code I) pc = .ok (.getstatic idx, 3)) (h : am_E Λ I d (pc + 3) ls (.int 1 :: st) σ r0 σ0) : am_E Λ I d pc ls st σ r0 σ0 := by
  refine ⟨h.1, fun p l e s m args below meth c g A ν0 n0 bc bs H locs ν lsA Cx Iv => ?_⟩
  have ok3 := Cx.2.2.2.2.2.2.2.2.1.2.2.1
  have k0 := h.2 p l e s m args below meth c g A ν0 n0 bc bs H locs ν lsA Cx (am_iv_st Iv fun v hv => by
    rcases List.mem_cons.mp hv with rfl | hv
    · exact trivial
    · exact Iv.2.2.2.2.1.2 v hv)
  exact va_gets Cx.1 Cx.2.1 ok3.2.1 Iv.2.2.1 Cx.2.2.2.2.2.1 (Cx.2.2.2.2.2.2.1 _ hl) (fun _ z => z) hd k0
theorem am_szf {idx : Nat} (hl : Cond.fieldLink (am_y I).cls idx "jdk/internal/util/Preconditions" "SIOOBE_FORMATTER" "Ljava/util/function/BiFunction;" ∈ am_W) (hd : decode (am_code I) pc = .ok (.getstatic idx, 3)) (h1 : am_E Λ I d (pc + 3) ls (.null :: st) σ r0 σ0) (h2 : am_E Λ I d (pc + 3) ls (.ref (am_sb + 6) :: st) σ r0 σ0) : am_E Λ I d pc ls st σ r0 σ0 := by
  refine ⟨h1.1, fun p l e s m args below meth c g A ν0 n0 bc bs H locs ν lsA Cx Iv => ?_⟩
  have ok3 := Cx.2.2.2.2.2.2.2.2.1.2.2.1
  rcases ok3.2.2.2 with hz | hz
  · have k0 := h1.2 p l e s m args below meth c g A ν0 n0 bc bs H locs ν lsA Cx (am_iv_st Iv fun v hv => by
      rcases List.mem_cons.mp hv with rfl | hv
      · exact trivial
      · exact Iv.2.2.2.2.1.2 v hv)
    exact va_gets Cx.1 Cx.2.1 hz Iv.2.2.1 Cx.2.2.2.2.2.1 (Cx.2.2.2.2.2.2.1 _ hl) (fun _ z => z) hd k0
  · have k0 := h2.2 p l e s m args below meth c g A ν0 n0 bc bs H locs ν lsA Cx (am_iv_st Iv fun v hv => by
      rcases List.mem_cons.mp hv with rfl | hv
      · exact Or.inr (Nat.le_add_right _ _)
      · exact Iv.2.2.2.2.1.2 v hv)
    rw [List.map_cons, show am_tr ν (.ref (am_sb + 6)) = .ref (g.2.2.1 6) from congrArg Value.ref (Iv.2.2.2.2.2.2.2.2.2 6)] at k0
    exact va_gets Cx.1 Cx.2.1 hz Iv.2.2.1 Cx.2.2.2.2.2.1 (Cx.2.2.2.2.2.2.1 _ hl) (fun _ z => z) hd k0
theorem am_slen {k : Nat} (hk : k < 3) (hd : decode (am_code I) pc = .ok (.arraylength, 1)) (h : am_E Λ I d (pc + 1) ls (.int (nI (am_tlen.getD k 0)) :: st) σ r0 σ0) : am_E Λ I d pc ls (.ref (am_sb + (3 + k)) :: st) σ r0 σ0 := by
  refine ⟨h.1, fun p l e s m args below meth c g A ν0 n0 bc bs H locs ν lsA Cx Iv => ?_⟩
  have ok3 := Cx.2.2.2.2.2.2.2.2.1.2.2.1
  have k0 := h.2 p l e s m args below meth c g A ν0 n0 bc bs H locs ν lsA Cx (am_iv_st Iv fun v hv => by
    rcases List.mem_cons.mp hv with rfl | hv
    · exact trivial
    · exact Iv.2.2.2.2.1.2 v (List.mem_cons_of_mem _ hv))
  rw [List.map_cons, show am_tr ν (.ref (am_sb + (3 + k))) = .ref (g.2.2.2 k) from congrArg Value.ref ((Iv.2.2.2.2.2.2.2.2.2 (3 + k)).trans (ok3.2.2.1 k hk))]
  exact va_tlen Cx.1 Cx.2.1 (ok3.1.1 k hk).2.2.2 Iv.2.2.1 rfl hd k0
theorem am_sbyt {k : Nat} {i : Int32} (hk : k < 3) (hi : vp_in i (am_tlen.getD k 0)) (hd : decode (am_code I) pc = .ok (.baload, 1)) (h : am_E Λ I d (pc + 1) ls (.int ((am_tbyt.getD k []).getD i.toNatClampNeg 0) :: st) σ r0 σ0) : am_E Λ I d pc ls (.int i :: .ref (am_sb + (3 + k)) :: st) σ r0 σ0 := by
  refine ⟨h.1, fun p l e s m args below meth c g A ν0 n0 bc bs H locs ν lsA Cx Iv => ?_⟩
  have ok3 := Cx.2.2.2.2.2.2.2.2.1.2.2.1
  have k0 := h.2 p l e s m args below meth c g A ν0 n0 bc bs H locs ν lsA Cx (am_iv_st Iv fun v hv => by
    rcases List.mem_cons.mp hv with rfl | hv
    · exact trivial
    · exact Iv.2.2.2.2.1.2 v (List.mem_cons_of_mem _ (List.mem_cons_of_mem _ hv)))
  rw [List.map_cons, List.map_cons, show am_tr ν (.ref (am_sb + (3 + k))) = .ref (g.2.2.2 k) from congrArg Value.ref ((Iv.2.2.2.2.2.2.2.2.2 (3 + k)).trans (ok3.2.2.1 k hk))]
  exact va_tb Cx.1 Cx.2.1 (ok3.1.1 k hk).2.2.2 Iv.2.2.1 hi rfl hd k0
theorem am_iretB {v : Int32} (hd : decode (am_code I) pc = .ok (.ireturn, 1)) (hr : am_rt I = some .byte) (hv : narrow .byte (.int v) = .int v) : am_E Λ I d pc ls [.int v] σ (some (.int v)) σ := by
  refine ⟨⟨Nat.le_refl _, Nat.le_refl _⟩, fun p l e s m args below meth c g A ν0 n0 bc bs H locs ν lsA Cx Iv => ?_⟩
  obtain ⟨hx, hb, -, hret, hlk, -⟩ := Cx
  exact W.zret hx hb (hret.trans hr) hv (fun t ht _ => am_end (v := some (.int v)) Iv t ht) Iv.2.2.1.2.2 hd hlk
end AMT
def IS_lat : am_I := (yJ0_isLatin1_aae02, cJ0_isLatin1_aae02, 1, (some FieldType.boolean), [(0, .getstatic 38), (3, .ifCond .eq 14), (6, .aload_n 0), (7, .getfield 15), (10, .ifCond .ne 7), (13, .iconst 1), (14, .goto 4), (17, .iconst 0), (18, .ireturn)], [], [], [], [], [], [])
theorem ow_lat : am_own IS_lat := ⟨by decide, (am_hw_mem (i := 529) (by decide +kernel)), (am_hw_mem (i := 135) (by decide +kernel)), by decide +kernel, by decide +kernel, by decide +kernel⟩
theorem ok_lat : am_okI (fun _ => IS_lat) IS_lat := ⟨am_ichk_ok (by decide +kernel), am_fa0, am_fa0, am_fa0, am_fa0, am_fa0, am_fa0⟩
def IS_cod : am_I := (yJ0_coder_7d493, cJ0_coder_7d493, 1, (some FieldType.byte), [(0, .getstatic 38), (3, .ifCond .eq 10), (6, .aload_n 0), (7, .getfield 15), (10, .goto 4), (13, .iconst 1), (14, .ireturn)], [], [], [], [], [], [])
theorem ow_cod : am_own IS_cod := ⟨by decide, (am_hw_mem (i := 539) (by decide +kernel)), (am_hw_mem (i := 135) (by decide +kernel)), by decide +kernel, by decide +kernel, by decide +kernel⟩
theorem ok_cod : am_okI (fun _ => IS_cod) IS_cod := ⟨am_ichk_ok (by decide +kernel), am_fa0, am_fa0, am_fa0, am_fa0, am_fa0, am_fa0⟩
def IS_len : am_I := (yJ0_length_8abf5, cJ0_length_8abf5, 1, (some FieldType.int), [(0, .aload_n 0), (1, .getfield 9), (4, .arraylength), (5, .aload_n 0), (6, .invokevirtual 335), (9, .ishr), (10, .ireturn)], [], [], [], [], [], [])
theorem ow_len : am_own IS_len := ⟨by decide, (am_hw_mem (i := 535) (by decide +kernel)), (am_hw_mem (i := 135) (by decide +kernel)), by decide +kernel, by decide +kernel, by decide +kernel⟩
theorem ok_len : am_okI (fun _ => IS_len) IS_len := ⟨am_ichk_ok (by decide +kernel), am_fa0, am_fa0, am_fa0, am_fa0, am_fa0, am_fa0⟩
def IS_enc : am_I := (yJ1_canEncode_9a6ad, cJ1_canEncode_9a6ad, 1, (some FieldType.boolean), [(0, .iload_n 0), (1, .ifCond .lt 14), (4, .iload_n 0), (5, .sipush 255), (8, .if_icmp .gt 7), (11, .iconst 1), (12, .goto 4), (15, .iconst 0), (16, .ireturn)], [], [], [], [], [], [])
theorem ow_enc : am_own IS_enc := ⟨by decide, (am_hw_mem (i := 545) (by decide +kernel)), (am_hw_mem (i := 136) (by decide +kernel)), by decide +kernel, by decide +kernel, by decide +kernel⟩
theorem ok_enc : am_okI (fun _ => IS_enc) IS_enc := ⟨am_ichk_ok (by decide +kernel), am_fa0, am_fa0, am_fa0, am_fa0, am_fa0, am_fa0⟩
def IS_ioc : am_I := (yJ1_indexOfChar_4cfef, cJ1_indexOfChar_4cfef, 6, (some FieldType.int), [(0, .iload_n 1), (1, .i2b), (2, .istore 4), (4, .iload_n 2), (5, .istore 5), (7, .iload 5), (9, .iload_n 3), (10, .if_icmp .ge 21), (13, .aload_n 0), (14, .iload 5), (16, .baload), (17, .iload 4), (19, .if_icmp .ne 6), (22, .iload 5), (24, .ireturn), (25, .iinc 5 1), (28, .goto (-21)), (31, .iconst (-1)), (32, .ireturn)], [], [], [], [], [], [])
theorem ow_ioc : am_own IS_ioc := ⟨by decide, (am_hw_mem (i := 554) (by decide +kernel)), (am_hw_mem (i := 136) (by decide +kernel)), by decide +kernel, by decide +kernel, by decide +kernel⟩
theorem ok_ioc : am_okI (fun _ => IS_ioc) IS_ioc := ⟨am_ichk_ok (by decide +kernel), am_fa0, am_fa0, am_fa0, am_fa0, am_fa0, am_fa0⟩
def IS_lio : am_I := (yJ1_indexOf_4cfef, cJ1_indexOf_4cfef, 4, (some FieldType.int), [(0, .iload_n 1), (1, .invokestatic 88), (4, .ifCond .ne 5), (7, .iconst (-1)), (8, .ireturn), (9, .iload_n 2), (10, .iconst 0), (11, .invokestatic 92), (14, .istore_n 2), (15, .iload_n 3), (16, .aload_n 0), (17, .arraylength), (18, .invokestatic 38), (21, .istore_n 3), (22, .iload_n 2), (23, .iload_n 3), (24, .if_icmp .lt 5), (27, .iconst (-1)), (28, .ireturn), (29, .aload_n 0), (30, .iload_n 1), (31, .iload_n 2), (32, .iload_n 3), (33, .invokestatic 95), (36, .ireturn)], [], [], [], [], [], [])
theorem ow_lio : am_own IS_lio := ⟨by decide, (am_hw_mem (i := 542) (by decide +kernel)), (am_hw_mem (i := 136) (by decide +kernel)), by decide +kernel, by decide +kernel, by decide +kernel⟩
theorem ok_lio : am_okI (fun _ => IS_lio) IS_lio := ⟨am_ichk_ok (by decide +kernel), am_fa0, am_fa0, am_fa0, am_fa0, am_fa0, am_fa0⟩
def IS_io2 : am_I := (yJ0_indexOf_7cf53, cJ0_indexOf_7cf53, 3, (some FieldType.int), [(0, .aload_n 0), (1, .invokevirtual 492), (4, .ifCond .eq 19), (7, .aload_n 0), (8, .getfield 9), (11, .iload_n 1), (12, .iload_n 2), (13, .aload_n 0), (14, .invokevirtual 505), (17, .invokestatic 637), (20, .goto 16), (36, .ireturn)], [], [], [], [], [], [])
theorem ow_io2 : am_own IS_io2 := ⟨by decide, (am_hw_mem (i := 525) (by decide +kernel)), (am_hw_mem (i := 135) (by decide +kernel)), by decide +kernel, by decide +kernel, by decide +kernel⟩
theorem ok_io2 : am_okI (fun _ => IS_io2) IS_io2 := ⟨am_ichk_ok (by decide +kernel), am_fa0, am_fa0, am_fa0, am_fa0, am_fa0, am_fa0⟩
def IS_io1 : am_I := (yJ0_indexOf_0f7a4, cJ0_indexOf_0f7a4, 2, (some FieldType.int), [(0, .aload_n 0), (1, .iload_n 1), (2, .iconst 0), (3, .invokevirtual 633), (6, .ireturn)], [], [], [], [], [], [])
theorem ow_io1 : am_own IS_io1 := ⟨by decide, (am_hw_mem (i := 521) (by decide +kernel)), (am_hw_mem (i := 135) (by decide +kernel)), by decide +kernel, by decide +kernel, by decide +kernel⟩
theorem ok_io1 : am_okI (fun _ => IS_io1) IS_io1 := ⟨am_ichk_ok (by decide +kernel), am_fa0, am_fa0, am_fa0, am_fa0, am_fa0, am_fa0⟩
def IS_pck : am_I := (yJ3_checkIndex_8e157, cJ3_checkIndex_8e157, 3, (some FieldType.int), [(0, .iload_n 0), (1, .ifCond .lt 8), (4, .iload_n 0), (5, .iload_n 1), (6, .if_icmp .lt 10), (16, .iload_n 0), (17, .ireturn)], [], [], [], [], [], [])
theorem ow_pck : am_own IS_pck := ⟨by decide, (am_hw_mem (i := 723) (by decide +kernel)), (am_hw_mem (i := 139) (by decide +kernel)), by decide +kernel, by decide +kernel, by decide +kernel⟩
theorem ok_pck : am_okI (fun _ => IS_pck) IS_pck := ⟨am_ichk_ok (by decide +kernel), am_fa0, am_fa0, am_fa0, am_fa0, am_fa0, am_fa0⟩
def IS_chk : am_I := (yJ0_checkIndex_df160, cJ0_checkIndex_df160, 2, none, [(0, .iload_n 0), (1, .iload_n 1), (2, .getstatic 1053), (5, .invokestatic 1059), (8, .pop), (9, .return_)], [], [], [], [], [], [])
theorem ow_chk : am_own IS_chk := ⟨by decide, (am_hw_mem (i := 720) (by decide +kernel)), (am_hw_mem (i := 135) (by decide +kernel)), by decide +kernel, by decide +kernel, by decide +kernel⟩
theorem ok_chk : am_okI (fun _ => IS_chk) IS_chk := ⟨am_ichk_ok (by decide +kernel), am_fa0, am_fa0, am_fa0, am_fa0, am_fa0, am_fa0⟩
def IS_lca : am_I := (yJ1_charAt_3b067, cJ1_charAt_3b067, 2, (some FieldType.char), [(0, .iload_n 1), (1, .aload_n 0), (2, .arraylength), (3, .invokestatic 9), (6, .aload_n 0), (7, .iload_n 1), (8, .baload), (9, .sipush 255), (12, .iand), (13, .i2c), (14, .ireturn)], [], [], [], [], [], [])
theorem ow_lca : am_own IS_lca := ⟨by decide, (am_hw_mem (i := 717) (by decide +kernel)), (am_hw_mem (i := 136) (by decide +kernel)), by decide +kernel, by decide +kernel, by decide +kernel⟩
theorem ok_lca : am_okI (fun _ => IS_lca) IS_lca := ⟨am_ichk_ok (by decide +kernel), am_fa0, am_fa0, am_fa0, am_fa0, am_fa0, am_fa0⟩
def IS_cha : am_I := (yJ0_charAt_5068e, cJ0_charAt_5068e, 2, (some FieldType.char), [(0, .aload_n 0), (1, .invokevirtual 492), (4, .ifCond .eq 12), (7, .aload_n 0), (8, .getfield 9), (11, .iload_n 1), (12, .invokestatic 495), (15, .ireturn)], [], [], [], [], [], [])
theorem ow_cha : am_own IS_cha := ⟨by decide, (am_hw_mem (i := 714) (by decide +kernel)), (am_hw_mem (i := 135) (by decide +kernel)), by decide +kernel, by decide +kernel, by decide +kernel⟩
theorem ok_cha : am_okI (fun _ => IS_cha) IS_cha := ⟨am_ichk_ok (by decide +kernel), am_fa0, am_fa0, am_fa0, am_fa0, am_fa0, am_fa0⟩
theorem mk_lat : am_mok RJ0 492 IS_lat 0 3 0 := ⟨ow_lat, by decide +kernel, Or.inl (am_hw_mem (i := 526) (by decide +kernel)), fun h => absurd h (by decide), fun h => absurd h (by decide), fun h => absurd h (by decide), fun _ => ⟨(am_hw_mem (i := 527) (by decide +kernel)), (am_hw_mem (i := 528) (by decide +kernel)), rfl⟩⟩
theorem mk_len : am_mok RJ0 505 IS_len 0 3 0 := ⟨ow_len, by decide +kernel, Or.inl (am_hw_mem (i := 532) (by decide +kernel)), fun h => absurd h (by decide), fun h => absurd h (by decide), fun h => absurd h (by decide), fun _ => ⟨(am_hw_mem (i := 533) (by decide +kernel)), (am_hw_mem (i := 534) (by decide +kernel)), rfl⟩⟩
theorem mk_cod : am_mok RJ0 335 IS_cod 0 3 0 := ⟨ow_cod, by decide +kernel, Or.inl (am_hw_mem (i := 536) (by decide +kernel)), fun h => absurd h (by decide), fun h => absurd h (by decide), fun h => absurd h (by decide), fun _ => ⟨(am_hw_mem (i := 537) (by decide +kernel)), (am_hw_mem (i := 538) (by decide +kernel)), rfl⟩⟩
theorem mk_io2 : am_mok RJ0 633 IS_io2 2 3 0 := ⟨ow_io2, by decide +kernel, Or.inl (am_hw_mem (i := 522) (by decide +kernel)), fun h => absurd h (by decide), fun h => absurd h (by decide), fun h => absurd h (by decide), fun _ => ⟨(am_hw_mem (i := 523) (by decide +kernel)), (am_hw_mem (i := 524) (by decide +kernel)), rfl⟩⟩
theorem mk_lio : am_mok RJ0 637 IS_lio 4 0 0 := ⟨ow_lio, by decide +kernel, Or.inl (am_hw_mem (i := 540) (by decide +kernel)), fun _ => (am_hw_mem (i := 541) (by decide +kernel)), fun h => absurd h (by decide), fun h => absurd h (by decide), fun h => absurd h (by decide)⟩
theorem mk_enc : am_mok RJ1 88 IS_enc 1 0 0 := ⟨ow_enc, by decide +kernel, Or.inl (am_hw_mem (i := 543) (by decide +kernel)), fun _ => (am_hw_mem (i := 544) (by decide +kernel)), fun h => absurd h (by decide), fun h => absurd h (by decide), fun h => absurd h (by decide)⟩
theorem mk_ioc : am_mok RJ1 95 IS_ioc 4 0 0 := ⟨ow_ioc, by decide +kernel, Or.inl (am_hw_mem (i := 552) (by decide +kernel)), fun _ => (am_hw_mem (i := 553) (by decide +kernel)), fun h => absurd h (by decide), fun h => absurd h (by decide), fun h => absurd h (by decide)⟩
theorem mk_lca : am_mok RJ0 495 IS_lca 2 0 0 := ⟨ow_lca, by decide +kernel, Or.inl (am_hw_mem (i := 715) (by decide +kernel)), fun _ => (am_hw_mem (i := 716) (by decide +kernel)), fun h => absurd h (by decide), fun h => absurd h (by decide), fun h => absurd h (by decide)⟩
theorem mk_chk : am_mok RJ1 9 IS_chk 2 0 0 := ⟨ow_chk, by decide +kernel, Or.inl (am_hw_mem (i := 718) (by decide +kernel)), fun _ => (am_hw_mem (i := 719) (by decide +kernel)), fun h => absurd h (by decide), fun h => absurd h (by decide), fun h => absurd h (by decide)⟩
theorem mk_pck : am_mok RJ0 1059 IS_pck 3 0 0 := ⟨ow_pck, by decide +kernel, Or.inl (am_hw_mem (i := 721) (by decide +kernel)), fun _ => (am_hw_mem (i := 722) (by decide +kernel)), fun h => absurd h (by decide), fun h => absurd h (by decide), fun h => absurd h (by decide)⟩
section STR
variable {σ : am_S} {d k : Nat}
theorem s_lat (hk : k < 3) : am_Ctr am_Lx IS_lat (d + 1) [.ref (am_sb + k)] σ (some (.int 1)) σ :=
  am_of ow_lat (Nat.le_refl _) (am_scmp (idx := 38) (am_hw_mem (i := 530) (by decide +kernel)) (by decide +kernel) (am_run ok_lat am_tok_ok 2 (And.intro (fun h => absurd h (by decide)) (fun _ => am_scod (idx := 15) hk (am_hw_mem (i := 1560) (by decide +kernel)) (by decide +kernel) (am_run ok_lat am_tok_ok 4 (And.intro (fun h => absurd rfl h) (fun _ => And.intro (Or.inr rfl) (And.intro rfl rfl)))))))) 
theorem s_cod (hk : k < 3) : am_Ctr am_Lx IS_cod (d + 1) [.ref (am_sb + k)] σ (some (.int 0)) σ :=
  am_of ow_cod (Nat.le_refl _) (am_scmp (idx := 38) (am_hw_mem (i := 530) (by decide +kernel)) (by decide +kernel) (am_run ok_cod am_tok_ok 2 (And.intro (fun h => absurd h (by decide)) (fun _ => am_scod (idx := 15) hk (am_hw_mem (i := 1560) (by decide +kernel)) (by decide +kernel) (am_run ok_cod am_tok_ok 1 (am_iretB (by decide +kernel : decode (am_code IS_cod) 14 = .ok (.ireturn, 1)) rfl rfl))))))
theorem s_len (hk : k < 3) : am_Ctr am_Lx IS_len (d + 2) [.ref (am_sb + k)] σ (some (.int (nI (am_tlen.getD k 0)))) σ := by
  refine am_of ow_len (Nat.le_refl _) (am_run ok_len am_tok_ok 1 (am_sval (idx := 9) hk (am_hw_mem (i := 1561) (by decide +kernel)) (by decide +kernel) (am_slen hk (by decide +kernel) (am_run ok_len am_tok_ok 1 ?_))))
  refine am_callV (k := 3) (n := 0) (ci := 0) (rest := [.int (nI (am_tlen.getD k 0))]) (Or.inr ⟨rfl, Nat.le_add_right _ _, Nat.add_lt_add_left hk _⟩) mk_cod (by decide +kernel) (Nat.zero_le _) rfl (Nat.le_of_ble_eq_true rfl) (s_cod hk) (am_run ok_len am_tok_ok 2 (And.intro trivial (And.intro ?_ rfl)))
  match k, hk with
  | 0, _ => decide
  | 1, _ => decide
  | 2, _ => decide
theorem s_enc {c : Int32} : am_Ctr am_Lx IS_enc (d + 1) [.int c] σ (some (.int (if 0 ≤ c ∧ c ≤ 255 then 1 else 0))) σ := by
  refine am_of ow_enc (Nat.le_refl _) (am_run ok_enc am_tok_ok 2 (And.intro (fun h => ?_) (fun h => am_run ok_enc am_tok_ok 3 (And.intro (fun h2 => ?_) (fun h2 => ?_)))))
  · rw [if_neg (fun z => Int32.not_lt.mpr z.1 h)]
    exact am_run ok_enc am_tok_ok 2 (And.intro (Or.inl rfl) (And.intro rfl rfl))
  · rw [if_neg (fun z => Int32.not_lt.mpr z.2 h2)]
    exact am_run ok_enc am_tok_ok 2 (And.intro (Or.inl rfl) (And.intro rfl rfl))
  · rw [if_pos ⟨Int32.not_lt.mp h, Int32.not_lt.mp h2⟩]
    exact am_run ok_enc am_tok_ok 3 (And.intro (Or.inr rfl) (And.intro rfl rfl))
theorem s_tl (hk : k < 3) : am_tlen.getD k 0 = (am_tbyt.getD k []).length ∧ 0 < am_tlen.getD k 0 ∧ am_tlen.getD k 0 < 30 := by
  match k, hk with
  | 0, _ => decide
  | 1, _ => decide
  | 2, _ => decide
theorem s_b8 : ∀ n : Nat, n < 256 → ∀ b ∈ am_tbyt.getD 0 [] ++ am_tbyt.getD 1 [] ++ am_tbyt.getD 2 [], (b = (nI n).toInt8.toInt32 ↔ b = nI n) ∧ (0 ≤ b ∧ b ≤ 255) := by decide +kernel
theorem s_bm (hk : k < 3) {b : Int32} (hb : b ∈ am_tbyt.getD k []) : b ∈ am_tbyt.getD 0 [] ++ am_tbyt.getD 1 [] ++ am_tbyt.getD 2 [] := by
  match k, hk, hb with
  | 0, _, hb => exact List.mem_append_left _ (List.mem_append_left _ hb)
  | 1, _, hb => exact List.mem_append_left _ (List.mem_append_right _ hb)
  | 2, _, hb => exact List.mem_append_right _ hb
theorem s_none {c : Int32} : ∀ (l : List Int32) (j : Nat), (∀ b ∈ l, b ≠ c) → ixF c l j = -1
  | [], _, _ => rfl
  | b :: l, j, h => by
    unfold ixF
    rw [if_neg (h b List.mem_cons_self)]
    exact s_none l (j + 1) fun x hx => h x (List.mem_cons_of_mem _ hx)
theorem s_loop {c c8 : Int32} (hk : k < 3) (hc : ∀ b ∈ am_tbyt.getD k [], (b = c8 ↔ b = c)) : ∀ (m j : Nat), j + m = am_tlen.getD k 0 → am_E am_Lx IS_ioc (d + 1) 7 [some (.ref (am_sb + (3 + k))), some (.int c), some (.int 0), some (.int (nI (am_tlen.getD k 0))), some (.int c8), some (.int (nI j))] [] σ (some (.int (ixF c ((am_tbyt.getD k []).drop j) j))) σ
  | 0, j, hj => by
    have h0 := s_tl hk
    refine am_run ok_ioc am_tok_ok 3 (And.intro (fun _ => ?_) (fun h => absurd (nI_le (by omega) (by omega)) h))
    rw [List.drop_eq_nil_of_le (by omega)]
    exact am_run ok_ioc am_tok_ok 2 (And.intro trivial (And.intro rfl rfl))
  | m + 1, j, hj => by
    have h0 := s_tl hk
    have hlt : j < (am_tbyt.getD k []).length := by omega
    refine am_run ok_ioc am_tok_ok 3 (And.intro (fun h => absurd h (nI_ge (by omega) (by omega))) (fun _ => am_run ok_ioc am_tok_ok 2 (am_sbyt hk (nI_in (by omega) (by omega)) (by decide +kernel) ?_)))
    rw [nI_clamp (by omega), List.drop_eq_getElem_cons hlt]
    have e : (am_tbyt.getD k []).getD j 0 = (am_tbyt.getD k [])[j] := by rw [List.getD_eq_getElem?_getD, List.getElem?_eq_getElem hlt]; rfl
    rw [e]
    have hb := hc _ (List.getElem_mem hlt)
    generalize (am_tbyt.getD k [])[j] = b at hb
    unfold ixF
    refine am_run ok_ioc am_tok_ok 2 (And.intro (fun h => ?_) (fun h => ?_))
    · rw [if_neg (fun z => h (hb.mpr z))]
      have k1 := s_loop hk hc m (j + 1) (by omega)
      rw [← nI_1] at k1
      exact am_run ok_ioc am_tok_ok 2 k1
    · rw [if_pos (hb.mp h)]
      exact am_run ok_ioc am_tok_ok 2 (And.intro trivial (And.intro rfl rfl))
theorem s_ioc {n : Nat} (hk : k < 3) (hn : n < 256) : am_Ctr am_Lx IS_ioc (d + 1) [.ref (am_sb + (3 + k)), .int (nI n), .int 0, .int (nI (am_tlen.getD k 0))] σ (some (.int (ixF (nI n) (am_tbyt.getD k []) 0))) σ :=
  am_of ow_ioc (show 4 ≤ 6 by decide) (am_run ok_ioc am_tok_ok 5 (s_loop hk (fun b hb => (s_b8 n hn b (s_bm hk hb)).1) (am_tlen.getD k 0) 0 (Nat.zero_add _)))
theorem s_mx : Cond.methodLink RJ1 92 Lib.Math.max.name ∈ am_W ∧ Cond.static Lib.Math.max.name ∈ am_W ∧ Cond.initialized "java/lang/Math" ∈ am_W ∧ Cond.code Lib.Math.max.name Lib.Math.max.code 2 (some .int) ∈ am_W := ⟨(am_hw_mem (i := 546) (by decide +kernel)), (am_hw_mem (i := 547) (by decide +kernel)), (am_hw_mem (i := 137) (by decide +kernel)), (am_hw_mem (i := 548) (by decide +kernel))⟩
theorem s_mn : Cond.methodLink RJ1 38 Lib.Math.min.name ∈ am_W ∧ Cond.static Lib.Math.min.name ∈ am_W ∧ Cond.initialized "java/lang/Math" ∈ am_W ∧ Cond.code Lib.Math.min.name Lib.Math.min.code 2 (some .int) ∈ am_W := ⟨(am_hw_mem (i := 549) (by decide +kernel)), (am_hw_mem (i := 550) (by decide +kernel)), (am_hw_mem (i := 137) (by decide +kernel)), (am_hw_mem (i := 551) (by decide +kernel))⟩
theorem s_lio {c : Int32} (hk : k < 3) : am_Ctr am_Lx IS_lio (d + 2) [.ref (am_sb + (3 + k)), .int c, .int 0, .int (nI (am_tlen.getD k 0))] σ (some (.int (ixF c (am_tbyt.getD k []) 0))) σ := by
  have h0 := s_tl hk
  refine am_of ow_lio (Nat.le_refl _) (am_run ok_lio am_tok_ok 1 (am_callS (n := 1) (ci := 0) mk_enc (by decide +kernel) (show 1 ≤ 1 from Nat.le_refl 1) (show 0 ≤ 8 by decide) (s_enc (c := c)) (am_run ok_lio am_tok_ok 1 (And.intro (fun h => ?_) (fun h => ?_)))))
  · have hc : 0 ≤ c ∧ c ≤ 255 := by
      by_cases z : 0 ≤ c ∧ c ≤ 255
      · exact z
      · rw [if_neg z] at h
        exact absurd rfl h
    obtain ⟨n, hn, rfl⟩ : ∃ n, n < 256 ∧ c = nI n := by
      have h1 := Int32.le_iff_toInt_le.mp hc.1
      have h2 := Int32.le_iff_toInt_le.mp hc.2
      have e0 : (0 : Int32).toInt = 0 := rfl
      have e1 : (255 : Int32).toInt = 255 := rfl
      rw [e0] at h1
      rw [e1] at h2
      refine ⟨c.toInt.toNat, by omega, Int32.toInt_inj.mp ?_⟩
      rw [nI_toInt (by omega)]
      omega
    refine am_run ok_lio am_tok_ok 2 (am_max s_mx (by decide +kernel) (show 0 ≤ 8 by decide) ?_)
    rw [show (if (0 : Int32) < Int32.ofInt 0 then Int32.ofInt 0 else 0) = 0 from by decide]
    refine am_run ok_lio am_tok_ok 3 (am_slen hk (by decide +kernel) (am_min s_mn (by decide +kernel) (show 0 ≤ 8 by decide) ?_))
    rw [ite_self]
    refine am_run ok_lio am_tok_ok 4 (And.intro (fun _ => am_run ok_lio am_tok_ok 4 ?_) (fun h2 => absurd (nI_lt (a := 0) h0.2.1 (by omega)) h2))
    exact am_callS (n := 4) (ci := 0) mk_ioc (by decide +kernel) (show 4 ≤ 4 from Nat.le_refl 4) (show 0 ≤ 8 by decide) (s_ioc hk hn) (am_run ok_lio am_tok_ok 1 (And.intro trivial (And.intro rfl rfl)))
  · rw [s_none]
    · exact am_run ok_lio am_tok_ok 2 (And.intro trivial (And.intro rfl rfl))
    · intro b hb e
      subst e
      have z := (s_b8 0 (by decide) b (s_bm hk hb)).2
      rw [if_pos z] at h
      exact absurd h (by decide)
theorem s_io2 {c : Int32} (hk : k < 3) : am_Ctr am_Lx IS_io2 (d + 3) [.ref (am_sb + k), .int c, .int 0] σ (some (.int (ixF c (am_tbyt.getD k []) 0))) σ := by
  refine am_of ow_io2 (Nat.le_refl _) (am_run ok_io2 am_tok_ok 1 (am_callV (k := 3) (n := 0) (ci := 0) (rest := []) (Or.inr ⟨rfl, Nat.le_add_right _ _, Nat.add_lt_add_left hk _⟩) mk_lat (by decide +kernel) (Nat.zero_le _) rfl (show 0 ≤ 8 by decide) (s_lat hk) (am_run ok_io2 am_tok_ok 2 (And.intro (fun h => absurd h (by decide)) (fun _ => am_sval (idx := 9) hk (am_hw_mem (i := 1561) (by decide +kernel)) (by decide +kernel) (am_run ok_io2 am_tok_ok 3 ?_))))))
  refine am_callV (k := 3) (n := 0) (ci := 0) (rest := [.int 0, .int c, .ref (am_sb + (3 + k))]) (Or.inr ⟨rfl, Nat.le_add_right _ _, Nat.add_lt_add_left hk _⟩) mk_len (by decide +kernel) (Nat.zero_le _) rfl (show 3 ≤ 8 by decide) (s_len hk) ?_
  exact am_callS (n := 4) (ci := 0) mk_lio (by decide +kernel) (show 4 ≤ 4 from Nat.le_refl 4) (show 0 ≤ 8 by decide) (s_lio hk) (am_run ok_io2 am_tok_ok 2 (And.intro trivial (And.intro rfl rfl)))
theorem s_io1 {c : Int32} (hk : k < 3) : am_Ctr am_Lx IS_io1 (d + 4) [.ref (am_sb + k), .int c] σ (some (.int (ixF c (am_tbyt.getD k []) 0))) σ :=
  am_of ow_io1 (Nat.le_refl _) (am_run ok_io1 am_tok_ok 3 (am_callV (k := 3) (n := 2) (ci := 0) (rest := []) (Or.inr ⟨rfl, Nat.le_add_right _ _, Nat.add_lt_add_left hk _⟩) mk_io2 (by decide +kernel) (show 2 ≤ 3 by decide) rfl (show 0 ≤ 8 by decide) (s_io2 hk) (am_run ok_io1 am_tok_ok 1 (And.intro trivial (And.intro rfl rfl)))))
theorem s_pck {i n : Int32} {v : Value} (h1 : ¬ i < 0) (h2 : i < n) (hv : v = .null ∨ v = .ref (am_sb + 6)) : am_Ctr am_Lx IS_pck (d + 1) [.int i, .int n, v] σ (some (.int i)) σ := by
  rcases hv with rfl | rfl
  · exact am_of ow_pck (Nat.le_refl _) (am_run ok_pck am_tok_ok 2 (And.intro (fun h => absurd h h1) (fun _ => am_run ok_pck am_tok_ok 3 (And.intro (fun _ => am_run ok_pck am_tok_ok 2 (And.intro trivial (And.intro rfl rfl))) (fun h => absurd h2 h)))))
  · exact am_of ow_pck (Nat.le_refl _) (am_run ok_pck am_tok_ok 2 (And.intro (fun h => absurd h h1) (fun _ => am_run ok_pck am_tok_ok 3 (And.intro (fun _ => am_run ok_pck am_tok_ok 2 (And.intro trivial (And.intro rfl rfl))) (fun h => absurd h2 h)))))
theorem s_chk {i n : Int32} (h1 : ¬ i < 0) (h2 : i < n) : am_Ctr am_Lx IS_chk (d + 2) [.int i, .int n] σ none σ := by
  refine am_of ow_chk (Nat.le_refl _) (am_run ok_chk am_tok_ok 2 (am_szf (idx := 1053) (am_hw_mem (i := 573) (by decide +kernel)) (by decide +kernel) ?_ ?_))
  · exact am_callS (n := 3) (ci := 0) mk_pck (by decide +kernel) (show 3 ≤ 3 from Nat.le_refl 3) (show 0 ≤ 8 by decide) (s_pck h1 h2 (Or.inl rfl)) (am_run ok_chk am_tok_ok 2 (And.intro rfl rfl))
  · exact am_callS (n := 3) (ci := 0) mk_pck (by decide +kernel) (show 3 ≤ 3 from Nat.le_refl 3) (show 0 ≤ 8 by decide) (s_pck h1 h2 (Or.inr rfl)) (am_run ok_chk am_tok_ok 2 (And.intro rfl rfl))
theorem s_by : ∀ k, k < 3 → ∀ j, j < am_tlen.getD k 0 → ((((am_tbyt.getD k []).getD j 0 &&& (Int16.ofInt 255).toInt32).toUInt32 % 65536).toInt32 = (am_tbyt.getD k []).getD j 0) ∧ narrow .char (.int ((am_tbyt.getD k []).getD j 0)) = .int ((am_tbyt.getD k []).getD j 0) := by decide +kernel
theorem s_lca {j : Nat} (hk : k < 3) (hj : j < am_tlen.getD k 0) : am_Ctr am_Lx IS_lca (d + 3) [.ref (am_sb + (3 + k)), .int (nI j)] σ (some (.int ((am_tbyt.getD k []).getD j 0))) σ := by
  have h0 := s_tl hk
  have hb := s_by k hk j hj
  refine am_of ow_lca (Nat.le_refl _) (am_run ok_lca am_tok_ok 2 (am_slen hk (by decide +kernel) (am_callS (n := 2) (ci := 0) mk_chk (by decide +kernel) (show 2 ≤ 2 from Nat.le_refl 2) (show 0 ≤ 8 by decide) (s_chk (nI_pos (by omega)) (nI_lt hj (by omega))) (am_run ok_lca am_tok_ok 2 (am_sbyt hk (nI_in hj (by omega)) (by decide +kernel) ?_)))))
  rw [nI_clamp (by omega)]
  refine am_run ok_lca am_tok_ok 4 (And.intro ?_ (And.intro ?_ rfl))
  · show narrow .char (.int _) = _
    rw [hb.1]
    exact hb.2
  · show some (Value.int _) = some (Value.int _)
    rw [hb.1]
theorem s_cha {j : Nat} (hk : k < 3) (hj : j < am_tlen.getD k 0) : am_Ctr am_Lx IS_cha (d + 4) [.ref (am_sb + k), .int (nI j)] σ (some (.int ((am_tbyt.getD k []).getD j 0))) σ := by
  have hb := s_by k hk j hj
  refine am_of ow_cha (Nat.le_refl _) (am_run ok_cha am_tok_ok 1 (am_callV (k := 3) (n := 0) (ci := 0) (rest := []) (Or.inr ⟨rfl, Nat.le_add_right _ _, Nat.add_lt_add_left hk _⟩) mk_lat (by decide +kernel) (Nat.zero_le _) rfl (show 0 ≤ 8 by decide) (s_lat hk) (am_run ok_cha am_tok_ok 2 (And.intro (fun h => absurd h (by decide)) (fun _ => am_sval (idx := 9) hk (am_hw_mem (i := 1561) (by decide +kernel)) (by decide +kernel) (am_run ok_cha am_tok_ok 1 ?_))))))
  exact am_callS (n := 2) (ci := 0) mk_lca (by decide +kernel) (show 2 ≤ 2 from Nat.le_refl 2) (show 0 ≤ 8 by decide) (s_lca hk hj) (am_run ok_cha am_tok_ok 1 (And.intro hb.2 (And.intro rfl rfl)))
end STR
theorem str_len {σ : am_S} {d k : Nat} (hk : k < 3) : am_Ctr am_Lx IJ0_length_8abf5 (d + 8) [.ref (am_sb + k)] σ (some (.int (nI (am_tlen.getD k 0)))) σ := s_len (d := d + 6) hk
theorem str_char {σ : am_S} {d k j : Nat} (hk : k < 3) (hj : j < am_tlen.getD k 0) : am_Ctr am_Lx IJ0_charAt_5068e (d + 8) [.ref (am_sb + k), .int (nI j)] σ (some (.int ((am_tbyt.getD k []).getD j 0))) σ := s_cha (d := d + 4) hk hj
theorem str_ix {σ : am_S} {d k : Nat} {c : Int32} (hk : k < 3) : am_Ctr am_Lx IJ0_indexOf_0f7a4 (d + 8) [.ref (am_sb + k), .int c] σ (some (.int (ixF c (am_tbyt.getD k []) 0))) σ := s_io1 (d := d + 4) hk
