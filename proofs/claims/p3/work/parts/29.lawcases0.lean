section LWX0
variable {p : Program} {l : Launch} {e : Env} {s : State} {m : MethodId} {below : List Frame} {meth : Method} {c : Code} {b L : Nat} {xs : Nat → Int32} {g : am_G} {CB SB : Nat} {i : Int32} {σx σm σx' σm' : am_S} {j : Nat} {r r' : Int32}
theorem lwc_0 (C0 : lw_C p s m meth c b L xs g) (hi : i = nI j) (hj : j + 5 ≤ L) (hL : L ≤ 2560) (hx : am_Ctr am_Lx IX10_type 2000 (.ref 0 :: [.long (((xs (j + 1)).toInt64 <<< ((32 : Int32).toInt64 &&& 63)) ||| ((xs (j + 2)).toInt64 &&& 4294967295)), .int (xs (j + 3))]) σx (some (.int r)) σx') (hm : am_Ctr am_Lm IX11_type 2000 (.ref 0 :: [.long (((xs (j + 1)).toInt64 <<< ((32 : Int32).toInt64 &&& 63)) ||| ((xs (j + 2)).toInt64 &&& 4294967295)), .int (xs (j + 3))]) σm (some (.int r')) σm') (hg : gc σm = gc σm' ∧ gs σm = gs σm') (h : lw_E p l e s m below meth c b g CB SB 838 i [] σx' σm') : lw_E p l e s m below meth c b g CB SB 128 i [] σx σm := by
  refine lw_ld1 C0 (by decide +kernel) ?_
  refine lw_arg (n := 1) (k := 1) C0 hi (by decide) (by omega) hL (by decide +kernel) (by decide +kernel) (by decide +kernel) (by decide +kernel) (by decide +kernel) ?_
  refine lw_i2l C0 (by decide +kernel) ?_
  refine lw_bp (n := 32) (v := 32) C0 (by decide +kernel) rfl ?_
  refine lw_lshl C0 (by decide +kernel) ?_
  refine lw_arg (n := 2) (k := 2) C0 hi (by decide) (by omega) hL (by decide +kernel) (by decide +kernel) (by decide +kernel) (by decide +kernel) (by decide +kernel) ?_
  refine lw_i2l C0 (by decide +kernel) ?_
  refine lw_ldc2 (idx := 13) C0 lw_long (by decide +kernel) ?_
  refine lw_land C0 (by decide +kernel) ?_
  refine lw_lor C0 (by decide +kernel) ?_
  refine lw_arg (n := 3) (k := 3) C0 hi (by decide) (by omega) hL (by decide +kernel) (by decide +kernel) (by decide +kernel) (by decide +kernel) (by decide +kernel) ?_
  refine lw_callx (rest := []) C0 lwm_15 (by decide +kernel) lwl_15 hx rfl (fun v hv ν => by simp only [List.mem_cons, List.not_mem_nil, or_false] at hv; rcases hv with rfl | rfl <;> rfl) (by decide) rfl ?_
  refine lw_pop C0 (by decide +kernel) ?_
  refine lw_ld2 C0 (by decide +kernel) ?_
  refine lw_arg (n := 1) (k := 1) C0 hi (by decide) (by omega) hL (by decide +kernel) (by decide +kernel) (by decide +kernel) (by decide +kernel) (by decide +kernel) ?_
  refine lw_i2l C0 (by decide +kernel) ?_
  refine lw_bp (n := 32) (v := 32) C0 (by decide +kernel) rfl ?_
  refine lw_lshl C0 (by decide +kernel) ?_
  refine lw_arg (n := 2) (k := 2) C0 hi (by decide) (by omega) hL (by decide +kernel) (by decide +kernel) (by decide +kernel) (by decide +kernel) (by decide +kernel) ?_
  refine lw_i2l C0 (by decide +kernel) ?_
  refine lw_ldc2 (idx := 13) C0 lw_long (by decide +kernel) ?_
  refine lw_land C0 (by decide +kernel) ?_
  refine lw_lor C0 (by decide +kernel) ?_
  refine lw_arg (n := 3) (k := 3) C0 hi (by decide) (by omega) hL (by decide +kernel) (by decide +kernel) (by decide +kernel) (by decide +kernel) (by decide +kernel) ?_
  refine lw_callm (rest := []) C0 lwm_19 (by decide +kernel) lwl_19 hm hg rfl (fun v hv ν => by simp only [List.mem_cons, List.not_mem_nil, or_false] at hv; rcases hv with rfl | rfl <;> rfl) (by decide) rfl ?_
  refine lw_pop C0 (by decide +kernel) ?_
  exact lw_goto (off := 650) (tgt := 838) C0 (by decide +kernel) rfl h
theorem lwc_1 (C0 : lw_C p s m meth c b L xs g) (hi : i = nI j) (hj : j + 5 ≤ L) (hL : L ≤ 2560) (hx : am_Ctr am_Lx IX10_read 2000 (.ref 0 :: [.int (xs (j + 1))]) σx (some (.int r)) σx') (hm : am_Ctr am_Lm IX11_read 2000 (.ref 0 :: [.int (xs (j + 1))]) σm (some (.int r)) σm') (hg : gc σm = gc σm' ∧ gs σm = gs σm') (h : lw_E p l e s m below meth c b g CB SB 838 i [] σx' σm') : lw_E p l e s m below meth c b g CB SB 191 i [] σx σm := by
  refine lw_ld1 C0 (by decide +kernel) ?_
  refine lw_arg (n := 1) (k := 1) C0 hi (by decide) (by omega) hL (by decide +kernel) (by decide +kernel) (by decide +kernel) (by decide +kernel) (by decide +kernel) ?_
  refine lw_callx (rest := []) C0 lwm_20 (by decide +kernel) lwl_20 hx rfl (fun v hv ν => by simp only [List.mem_cons, List.not_mem_nil, or_false] at hv; subst hv; rfl) (by decide) rfl ?_
  refine lw_ld2 C0 (by decide +kernel) ?_
  refine lw_arg (n := 1) (k := 1) C0 hi (by decide) (by omega) hL (by decide +kernel) (by decide +kernel) (by decide +kernel) (by decide +kernel) (by decide +kernel) ?_
  refine lw_callm (rest := [.int r]) C0 lwm_24 (by decide +kernel) lwl_24 hm hg rfl (fun v hv ν => by simp only [List.mem_cons, List.not_mem_nil, or_false] at hv; subst hv; rfl) (show 1 + 0 ≤ 8 by decide) rfl ?_
  exact lw_eq (off := 629) (tgt := 838) C0 (by decide +kernel) rfl h
theorem lwc_2 (C0 : lw_C p s m meth c b L xs g) (hi : i = nI j) (hj : j + 5 ≤ L) (hL : L ≤ 2560) (hx : am_Ctr am_Lx IX10_told 2000 (.ref 0 :: [.int (xs (j + 1)), .int (xs (j + 2))]) σx (some (.int r)) σx') (hm : am_Ctr am_Lm IX11_told 2000 (.ref 0 :: [.int (xs (j + 1)), .int (xs (j + 2))]) σm (some (.int r')) σm') (hg : gc σm = gc σm' ∧ gs σm = gs σm') (h : lw_E p l e s m below meth c b g CB SB 838 i [] σx' σm') : lw_E p l e s m below meth c b g CB SB 214 i [] σx σm := by
  refine lw_ld1 C0 (by decide +kernel) ?_
  refine lw_arg (n := 1) (k := 1) C0 hi (by decide) (by omega) hL (by decide +kernel) (by decide +kernel) (by decide +kernel) (by decide +kernel) (by decide +kernel) ?_
  refine lw_arg (n := 2) (k := 2) C0 hi (by decide) (by omega) hL (by decide +kernel) (by decide +kernel) (by decide +kernel) (by decide +kernel) (by decide +kernel) ?_
  refine lw_callx (rest := []) C0 lwm_25 (by decide +kernel) lwl_25 hx rfl (fun v hv ν => by simp only [List.mem_cons, List.not_mem_nil, or_false] at hv; rcases hv with rfl | rfl <;> rfl) (by decide) rfl ?_
  refine lw_pop C0 (by decide +kernel) ?_
  refine lw_ld2 C0 (by decide +kernel) ?_
  refine lw_arg (n := 1) (k := 1) C0 hi (by decide) (by omega) hL (by decide +kernel) (by decide +kernel) (by decide +kernel) (by decide +kernel) (by decide +kernel) ?_
  refine lw_arg (n := 2) (k := 2) C0 hi (by decide) (by omega) hL (by decide +kernel) (by decide +kernel) (by decide +kernel) (by decide +kernel) (by decide +kernel) ?_
  refine lw_callm (rest := []) C0 lwm_29 (by decide +kernel) lwl_29 hm hg rfl (fun v hv ν => by simp only [List.mem_cons, List.not_mem_nil, or_false] at hv; rcases hv with rfl | rfl <;> rfl) (by decide) rfl ?_
  refine lw_pop C0 (by decide +kernel) ?_
  exact lw_goto (off := 594) (tgt := 838) C0 (by decide +kernel) rfl h
theorem lwc_3 (C0 : lw_C p s m meth c b L xs g) (hi : i = nI j) (hj : j + 5 ≤ L) (hL : L ≤ 2560) (hx : am_Ctr am_Lx IX10_part 2000 (.ref 0 :: [.int (xs (j + 1)), .int (xs (j + 2)), .int (xs (j + 3))]) σx (some (.int r)) σx') (hm : am_Ctr am_Lm IX11_part 2000 (.ref 0 :: [.int (xs (j + 1)), .int (xs (j + 2)), .int (xs (j + 3))]) σm (some (.int r')) σm') (hg : gc σm = gc σm' ∧ gs σm = gs σm') (h : lw_E p l e s m below meth c b g CB SB 838 i [] σx' σm') : lw_E p l e s m below meth c b g CB SB 247 i [] σx σm := by
  refine lw_ld1 C0 (by decide +kernel) ?_
  refine lw_arg (n := 1) (k := 1) C0 hi (by decide) (by omega) hL (by decide +kernel) (by decide +kernel) (by decide +kernel) (by decide +kernel) (by decide +kernel) ?_
  refine lw_arg (n := 2) (k := 2) C0 hi (by decide) (by omega) hL (by decide +kernel) (by decide +kernel) (by decide +kernel) (by decide +kernel) (by decide +kernel) ?_
  refine lw_arg (n := 3) (k := 3) C0 hi (by decide) (by omega) hL (by decide +kernel) (by decide +kernel) (by decide +kernel) (by decide +kernel) (by decide +kernel) ?_
  refine lw_callx (rest := []) C0 lwm_30 (by decide +kernel) lwl_30 hx rfl (fun v hv ν => by simp only [List.mem_cons, List.not_mem_nil, or_false] at hv; rcases hv with rfl | rfl | rfl <;> rfl) (by decide) rfl ?_
  refine lw_pop C0 (by decide +kernel) ?_
  refine lw_ld2 C0 (by decide +kernel) ?_
  refine lw_arg (n := 1) (k := 1) C0 hi (by decide) (by omega) hL (by decide +kernel) (by decide +kernel) (by decide +kernel) (by decide +kernel) (by decide +kernel) ?_
  refine lw_arg (n := 2) (k := 2) C0 hi (by decide) (by omega) hL (by decide +kernel) (by decide +kernel) (by decide +kernel) (by decide +kernel) (by decide +kernel) ?_
  refine lw_arg (n := 3) (k := 3) C0 hi (by decide) (by omega) hL (by decide +kernel) (by decide +kernel) (by decide +kernel) (by decide +kernel) (by decide +kernel) ?_
  refine lw_callm (rest := []) C0 lwm_34 (by decide +kernel) lwl_34 hm hg rfl (fun v hv ν => by simp only [List.mem_cons, List.not_mem_nil, or_false] at hv; rcases hv with rfl | rfl | rfl <;> rfl) (by decide) rfl ?_
  refine lw_pop C0 (by decide +kernel) ?_
  exact lw_goto (off := 551) (tgt := 838) C0 (by decide +kernel) rfl h
theorem lwc_4 (C0 : lw_C p s m meth c b L xs g) (hi : i = nI j) (hj : j + 5 ≤ L) (hL : L ≤ 2560) (hx : am_Ctr am_Lx IX10_order 2000 (.ref 0 :: [.int (xs (j + 1)), .int (xs (j + 2))]) σx (some (.int r)) σx') (hm : am_Ctr am_Lm IX11_order 2000 (.ref 0 :: [.int (xs (j + 1)), .int (xs (j + 2))]) σm (some (.int r')) σm') (hg : gc σm = gc σm' ∧ gs σm = gs σm') (h : lw_E p l e s m below meth c b g CB SB 838 i [] σx' σm') : lw_E p l e s m below meth c b g CB SB 290 i [] σx σm := by
  refine lw_ld1 C0 (by decide +kernel) ?_
  refine lw_arg (n := 1) (k := 1) C0 hi (by decide) (by omega) hL (by decide +kernel) (by decide +kernel) (by decide +kernel) (by decide +kernel) (by decide +kernel) ?_
  refine lw_arg (n := 2) (k := 2) C0 hi (by decide) (by omega) hL (by decide +kernel) (by decide +kernel) (by decide +kernel) (by decide +kernel) (by decide +kernel) ?_
  refine lw_callx (rest := []) C0 lwm_35 (by decide +kernel) lwl_35 hx rfl (fun v hv ν => by simp only [List.mem_cons, List.not_mem_nil, or_false] at hv; rcases hv with rfl | rfl <;> rfl) (by decide) rfl ?_
  refine lw_pop C0 (by decide +kernel) ?_
  refine lw_ld2 C0 (by decide +kernel) ?_
  refine lw_arg (n := 1) (k := 1) C0 hi (by decide) (by omega) hL (by decide +kernel) (by decide +kernel) (by decide +kernel) (by decide +kernel) (by decide +kernel) ?_
  refine lw_arg (n := 2) (k := 2) C0 hi (by decide) (by omega) hL (by decide +kernel) (by decide +kernel) (by decide +kernel) (by decide +kernel) (by decide +kernel) ?_
  refine lw_callm (rest := []) C0 lwm_38 (by decide +kernel) lwl_38 hm hg rfl (fun v hv ν => by simp only [List.mem_cons, List.not_mem_nil, or_false] at hv; rcases hv with rfl | rfl <;> rfl) (by decide) rfl ?_
  refine lw_pop C0 (by decide +kernel) ?_
  exact lw_goto (off := 518) (tgt := 838) C0 (by decide +kernel) rfl h
end LWX0
