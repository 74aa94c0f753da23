section LWX1
variable {p : Program} {l : Launch} {e : Env} {s : State} {m : MethodId} {below : List Frame} {meth : Method} {c : Code} {b L : Nat} {xs : Nat → Int32} {g : am_G} {CB SB : Nat} {i : Int32} {σx σm σx' σm' : am_S} {j : Nat} {r r' : Int32}
theorem lwc_5 (C0 : lw_C p s m meth c b L xs g) (hi : i = nI j) (hj : j + 5 ≤ L) (hL : L ≤ 2560) (hx : am_Ctr am_Lx IX10_join 2000 (.ref 0 :: [.int (xs (j + 1)), .int (xs (j + 2)), .int (xs (j + 3)), .int (xs (j + 4))]) σx (some (.int r)) σx') (hm : am_Ctr am_Lm IX11_join 2000 (.ref 0 :: [.int (xs (j + 1)), .int (xs (j + 2)), .int (xs (j + 3)), .int (xs (j + 4))]) σm (some (.int r')) σm') (hg : gc σm = gc σm' ∧ gs σm = gs σm') (h : lw_E p l e s m below meth c b g CB SB 838 i [] σx' σm') : lw_E p l e s m below meth c b g CB SB 323 i [] σx σm := by
  refine lw_ld1 C0 (by decide +kernel) ?_
  refine lw_arg (n := 1) (k := 1) C0 hi (by decide) (by omega) hL (by decide +kernel) (by decide +kernel) (by decide +kernel) (by decide +kernel) (by decide +kernel) ?_
  refine lw_arg (n := 2) (k := 2) C0 hi (by decide) (by omega) hL (by decide +kernel) (by decide +kernel) (by decide +kernel) (by decide +kernel) (by decide +kernel) ?_
  refine lw_arg (n := 3) (k := 3) C0 hi (by decide) (by omega) hL (by decide +kernel) (by decide +kernel) (by decide +kernel) (by decide +kernel) (by decide +kernel) ?_
  refine lw_arg (n := 4) (k := 4) C0 hi (by decide) (by omega) hL (by decide +kernel) (by decide +kernel) (by decide +kernel) (by decide +kernel) (by decide +kernel) ?_
  refine lw_callx (rest := []) C0 lwm_39 (by decide +kernel) lwl_39 hx rfl (fun v hv ν => by simp only [List.mem_cons, List.not_mem_nil, or_false] at hv; rcases hv with rfl | rfl | rfl | rfl <;> rfl) (by decide) rfl ?_
  refine lw_pop C0 (by decide +kernel) ?_
  refine lw_ld2 C0 (by decide +kernel) ?_
  refine lw_arg (n := 1) (k := 1) C0 hi (by decide) (by omega) hL (by decide +kernel) (by decide +kernel) (by decide +kernel) (by decide +kernel) (by decide +kernel) ?_
  refine lw_arg (n := 2) (k := 2) C0 hi (by decide) (by omega) hL (by decide +kernel) (by decide +kernel) (by decide +kernel) (by decide +kernel) (by decide +kernel) ?_
  refine lw_arg (n := 3) (k := 3) C0 hi (by decide) (by omega) hL (by decide +kernel) (by decide +kernel) (by decide +kernel) (by decide +kernel) (by decide +kernel) ?_
  refine lw_arg (n := 4) (k := 4) C0 hi (by decide) (by omega) hL (by decide +kernel) (by decide +kernel) (by decide +kernel) (by decide +kernel) (by decide +kernel) ?_
  refine lw_callm (rest := []) C0 lwm_43 (by decide +kernel) lwl_43 hm hg rfl (fun v hv ν => by simp only [List.mem_cons, List.not_mem_nil, or_false] at hv; rcases hv with rfl | rfl | rfl | rfl <;> rfl) (by decide) rfl ?_
  refine lw_pop C0 (by decide +kernel) ?_
  exact lw_goto (off := 465) (tgt := 838) C0 (by decide +kernel) rfl h
theorem lwc_6 (C0 : lw_C p s m meth c b L xs g) (hi : i = nI j) (hj : j + 5 ≤ L) (hL : L ≤ 2560) (hx : am_Ctr am_Lx IX10_print 2000 (.ref 0 :: [.int (xs (j + 1))]) σx (some (.int r)) σx') (hm : am_Ctr am_Lm IX11_print 2000 (.ref 0 :: [.int (xs (j + 1))]) σm (some (.int r')) σm') (hg : gc σm = gc σm' ∧ gs σm = gs σm') (h : lw_E p l e s m below meth c b g CB SB 838 i [] σx' σm') : lw_E p l e s m below meth c b g CB SB 376 i [] σx σm := by
  refine lw_ld1 C0 (by decide +kernel) ?_
  refine lw_arg (n := 1) (k := 1) C0 hi (by decide) (by omega) hL (by decide +kernel) (by decide +kernel) (by decide +kernel) (by decide +kernel) (by decide +kernel) ?_
  refine lw_callx (rest := []) C0 lwm_44 (by decide +kernel) lwl_44 hx rfl (fun v hv ν => by simp only [List.mem_cons, List.not_mem_nil, or_false] at hv; subst hv; rfl) (by decide) rfl ?_
  refine lw_pop C0 (by decide +kernel) ?_
  refine lw_ld2 C0 (by decide +kernel) ?_
  refine lw_arg (n := 1) (k := 1) C0 hi (by decide) (by omega) hL (by decide +kernel) (by decide +kernel) (by decide +kernel) (by decide +kernel) (by decide +kernel) ?_
  refine lw_callm (rest := []) C0 lwm_47 (by decide +kernel) lwl_47 hm hg rfl (fun v hv ν => by simp only [List.mem_cons, List.not_mem_nil, or_false] at hv; subst hv; rfl) (by decide) rfl ?_
  refine lw_pop C0 (by decide +kernel) ?_
  exact lw_goto (off := 442) (tgt := 838) C0 (by decide +kernel) rfl h
theorem lwc_7 (C0 : lw_C p s m meth c b L xs g) (hi : i = nI j) (hj : j + 5 ≤ L) (hL : L ≤ 2560) (hx : am_Ctr am_Lx IX10_out 2000 (.ref 0 :: [.int (xs (j + 1))]) σx (some (.int r)) σx') (hm : am_Ctr am_Lm IX11_out 2000 (.ref 0 :: [.int (xs (j + 1))]) σm (some (.int r')) σm') (hg : gc σm = gc σm' ∧ gs σm = gs σm') (h : lw_E p l e s m below meth c b g CB SB 838 i [] σx' σm') : lw_E p l e s m below meth c b g CB SB 399 i [] σx σm := by
  refine lw_ld1 C0 (by decide +kernel) ?_
  refine lw_arg (n := 1) (k := 1) C0 hi (by decide) (by omega) hL (by decide +kernel) (by decide +kernel) (by decide +kernel) (by decide +kernel) (by decide +kernel) ?_
  refine lw_callx (rest := []) C0 lwm_48 (by decide +kernel) lwl_48 hx rfl (fun v hv ν => by simp only [List.mem_cons, List.not_mem_nil, or_false] at hv; subst hv; rfl) (by decide) rfl ?_
  refine lw_pop C0 (by decide +kernel) ?_
  refine lw_ld2 C0 (by decide +kernel) ?_
  refine lw_arg (n := 1) (k := 1) C0 hi (by decide) (by omega) hL (by decide +kernel) (by decide +kernel) (by decide +kernel) (by decide +kernel) (by decide +kernel) ?_
  refine lw_callm (rest := []) C0 lwm_51 (by decide +kernel) lwl_51 hm hg rfl (fun v hv ν => by simp only [List.mem_cons, List.not_mem_nil, or_false] at hv; subst hv; rfl) (by decide) rfl ?_
  refine lw_pop C0 (by decide +kernel) ?_
  exact lw_goto (off := 419) (tgt := 838) C0 (by decide +kernel) rfl h
theorem lwc_8 (C0 : lw_C p s m meth c b L xs g) (hi : i = nI j) (hj : j + 5 ≤ L) (hL : L ≤ 2560) (hx : am_Ctr am_Lx IX10_match 2000 (.ref 0 :: [.int (xs (j + 1)), .int (xs (j + 2))]) σx (some (.int r)) σx') (hm : am_Ctr am_Lm IX11_match 2000 (.ref 0 :: [.int (xs (j + 1)), .int (xs (j + 2))]) σm (some (.int r')) σm') (hg : gc σm = gc σm' ∧ gs σm = gs σm') (h : lw_E p l e s m below meth c b g CB SB 838 i [] σx' σm') : lw_E p l e s m below meth c b g CB SB 422 i [] σx σm := by
  refine lw_ld1 C0 (by decide +kernel) ?_
  refine lw_arg (n := 1) (k := 1) C0 hi (by decide) (by omega) hL (by decide +kernel) (by decide +kernel) (by decide +kernel) (by decide +kernel) (by decide +kernel) ?_
  refine lw_arg (n := 2) (k := 2) C0 hi (by decide) (by omega) hL (by decide +kernel) (by decide +kernel) (by decide +kernel) (by decide +kernel) (by decide +kernel) ?_
  refine lw_callx (rest := []) C0 lwm_52 (by decide +kernel) lwl_52 hx rfl (fun v hv ν => by simp only [List.mem_cons, List.not_mem_nil, or_false] at hv; rcases hv with rfl | rfl <;> rfl) (by decide) rfl ?_
  refine lw_pop C0 (by decide +kernel) ?_
  refine lw_ld2 C0 (by decide +kernel) ?_
  refine lw_arg (n := 1) (k := 1) C0 hi (by decide) (by omega) hL (by decide +kernel) (by decide +kernel) (by decide +kernel) (by decide +kernel) (by decide +kernel) ?_
  refine lw_arg (n := 2) (k := 2) C0 hi (by decide) (by omega) hL (by decide +kernel) (by decide +kernel) (by decide +kernel) (by decide +kernel) (by decide +kernel) ?_
  refine lw_callm (rest := []) C0 lwm_55 (by decide +kernel) lwl_55 hm hg rfl (fun v hv ν => by simp only [List.mem_cons, List.not_mem_nil, or_false] at hv; rcases hv with rfl | rfl <;> rfl) (by decide) rfl ?_
  refine lw_pop C0 (by decide +kernel) ?_
  exact lw_goto (off := 386) (tgt := 838) C0 (by decide +kernel) rfl h
theorem lwc_9 (C0 : lw_C p s m meth c b L xs g) (hi : i = nI j) (hj : j + 5 ≤ L) (hL : L ≤ 2560) (hx : am_Ctr am_Lx IX10_matched 2000 (.ref 0 :: [.int (xs (j + 1)), .int (xs (j + 2)), .int (xs (j + 3))]) σx (some (.int r)) σx') (hm : am_Ctr am_Lm IX11_matched 2000 (.ref 0 :: [.int (xs (j + 1)), .int (xs (j + 2)), .int (xs (j + 3))]) σm (some (.int r')) σm') (hg : gc σm = gc σm' ∧ gs σm = gs σm') (h : lw_E p l e s m below meth c b g CB SB 838 i [] σx' σm') : lw_E p l e s m below meth c b g CB SB 455 i [] σx σm := by
  refine lw_ld1 C0 (by decide +kernel) ?_
  refine lw_arg (n := 1) (k := 1) C0 hi (by decide) (by omega) hL (by decide +kernel) (by decide +kernel) (by decide +kernel) (by decide +kernel) (by decide +kernel) ?_
  refine lw_arg (n := 2) (k := 2) C0 hi (by decide) (by omega) hL (by decide +kernel) (by decide +kernel) (by decide +kernel) (by decide +kernel) (by decide +kernel) ?_
  refine lw_arg (n := 3) (k := 3) C0 hi (by decide) (by omega) hL (by decide +kernel) (by decide +kernel) (by decide +kernel) (by decide +kernel) (by decide +kernel) ?_
  refine lw_callx (rest := []) C0 lwm_56 (by decide +kernel) lwl_56 hx rfl (fun v hv ν => by simp only [List.mem_cons, List.not_mem_nil, or_false] at hv; rcases hv with rfl | rfl | rfl <;> rfl) (by decide) rfl ?_
  refine lw_pop C0 (by decide +kernel) ?_
  refine lw_ld2 C0 (by decide +kernel) ?_
  refine lw_arg (n := 1) (k := 1) C0 hi (by decide) (by omega) hL (by decide +kernel) (by decide +kernel) (by decide +kernel) (by decide +kernel) (by decide +kernel) ?_
  refine lw_arg (n := 2) (k := 2) C0 hi (by decide) (by omega) hL (by decide +kernel) (by decide +kernel) (by decide +kernel) (by decide +kernel) (by decide +kernel) ?_
  refine lw_arg (n := 3) (k := 3) C0 hi (by decide) (by omega) hL (by decide +kernel) (by decide +kernel) (by decide +kernel) (by decide +kernel) (by decide +kernel) ?_
  refine lw_callm (rest := []) C0 lwm_59 (by decide +kernel) lwl_59 hm hg rfl (fun v hv ν => by simp only [List.mem_cons, List.not_mem_nil, or_false] at hv; rcases hv with rfl | rfl | rfl <;> rfl) (by decide) rfl ?_
  refine lw_pop C0 (by decide +kernel) ?_
  exact lw_goto (off := 343) (tgt := 838) C0 (by decide +kernel) rfl h
end LWX1
