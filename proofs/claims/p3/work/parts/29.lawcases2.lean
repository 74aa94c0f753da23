section LWX2
variable {p : Program} {l : Launch} {e : Env} {s : State} {m : MethodId} {below : List Frame} {meth : Method} {c : Code} {b L : Nat} {xs : Nat → Int32} {g : am_G} {CB SB : Nat} {i : Int32} {σx σm σx' σm' : am_S} {j : Nat} {r r' : Int32}
theorem lwc_10 (C0 : lw_C p s m meth c b L xs g) (hi : i = nI j) (hj : j + 5 ≤ L) (hL : L ≤ 2560) (hx : am_Ctr am_Lx IX10_instance 2000 (.ref 0 :: [.int (xs (j + 1)), .int (xs (j + 2)), .int (xs (j + 3))]) σx (some (.int r)) σx') (hm : am_Ctr am_Lm IX11_instance 2000 (.ref 0 :: [.int (xs (j + 1)), .int (xs (j + 2)), .int (xs (j + 3))]) σm (some (.int r')) σm') (hg : gc σm = gc σm' ∧ gs σm = gs σm') (h : lw_E p l e s m below meth c b g CB SB 838 i [] σx' σm') : lw_E p l e s m below meth c b g CB SB 498 i [] σx σm := by
  refine lw_ld1 C0 (by decide +kernel) ?_
  refine lw_arg (n := 1) (k := 1) C0 hi (by decide) (by omega) hL (by decide +kernel) (by decide +kernel) (by decide +kernel) (by decide +kernel) (by decide +kernel) ?_
  refine lw_arg (n := 2) (k := 2) C0 hi (by decide) (by omega) hL (by decide +kernel) (by decide +kernel) (by decide +kernel) (by decide +kernel) (by decide +kernel) ?_
  refine lw_arg (n := 3) (k := 3) C0 hi (by decide) (by omega) hL (by decide +kernel) (by decide +kernel) (by decide +kernel) (by decide +kernel) (by decide +kernel) ?_
  refine lw_callx (rest := []) C0 lwm_60 (by decide +kernel) lwl_60 hx rfl (fun v hv ν => by simp only [List.mem_cons, List.not_mem_nil, or_false] at hv; rcases hv with rfl | rfl | rfl <;> rfl) (by decide) rfl ?_
  refine lw_pop C0 (by decide +kernel) ?_
  refine lw_ld2 C0 (by decide +kernel) ?_
  refine lw_arg (n := 1) (k := 1) C0 hi (by decide) (by omega) hL (by decide +kernel) (by decide +kernel) (by decide +kernel) (by decide +kernel) (by decide +kernel) ?_
  refine lw_arg (n := 2) (k := 2) C0 hi (by decide) (by omega) hL (by decide +kernel) (by decide +kernel) (by decide +kernel) (by decide +kernel) (by decide +kernel) ?_
  refine lw_arg (n := 3) (k := 3) C0 hi (by decide) (by omega) hL (by decide +kernel) (by decide +kernel) (by decide +kernel) (by decide +kernel) (by decide +kernel) ?_
  refine lw_callm (rest := []) C0 lwm_63 (by decide +kernel) lwl_63 hm hg rfl (fun v hv ν => by simp only [List.mem_cons, List.not_mem_nil, or_false] at hv; rcases hv with rfl | rfl | rfl <;> rfl) (by decide) rfl ?_
  refine lw_pop C0 (by decide +kernel) ?_
  exact lw_goto (off := 300) (tgt := 838) C0 (by decide +kernel) rfl h
theorem lwc_11 (C0 : lw_C p s m meth c b L xs g) (hi : i = nI j) (hj : j + 5 ≤ L) (hL : L ≤ 2560) (hx : am_Ctr am_Lx IX10_system 2000 (.ref 0 :: [.int (xs (j + 1)), .int (xs (j + 2))]) σx (some (.int r)) σx') (hm : am_Ctr am_Lm IX11_system 2000 (.ref 0 :: [.int (xs (j + 1)), .int (xs (j + 2))]) σm (some (.int r')) σm') (hg : gc σm = gc σm' ∧ gs σm = gs σm') (h : lw_E p l e s m below meth c b g CB SB 838 i [] σx' σm') : lw_E p l e s m below meth c b g CB SB 541 i [] σx σm := by
  refine lw_ld1 C0 (by decide +kernel) ?_
  refine lw_arg (n := 1) (k := 1) C0 hi (by decide) (by omega) hL (by decide +kernel) (by decide +kernel) (by decide +kernel) (by decide +kernel) (by decide +kernel) ?_
  refine lw_arg (n := 2) (k := 2) C0 hi (by decide) (by omega) hL (by decide +kernel) (by decide +kernel) (by decide +kernel) (by decide +kernel) (by decide +kernel) ?_
  refine lw_callx (rest := []) C0 lwm_64 (by decide +kernel) lwl_64 hx rfl (fun v hv ν => by simp only [List.mem_cons, List.not_mem_nil, or_false] at hv; rcases hv with rfl | rfl <;> rfl) (by decide) rfl ?_
  refine lw_pop C0 (by decide +kernel) ?_
  refine lw_ld2 C0 (by decide +kernel) ?_
  refine lw_arg (n := 1) (k := 1) C0 hi (by decide) (by omega) hL (by decide +kernel) (by decide +kernel) (by decide +kernel) (by decide +kernel) (by decide +kernel) ?_
  refine lw_arg (n := 2) (k := 2) C0 hi (by decide) (by omega) hL (by decide +kernel) (by decide +kernel) (by decide +kernel) (by decide +kernel) (by decide +kernel) ?_
  refine lw_callm (rest := []) C0 lwm_67 (by decide +kernel) lwl_67 hm hg rfl (fun v hv ν => by simp only [List.mem_cons, List.not_mem_nil, or_false] at hv; rcases hv with rfl | rfl <;> rfl) (by decide) rfl ?_
  refine lw_pop C0 (by decide +kernel) ?_
  exact lw_goto (off := 267) (tgt := 838) C0 (by decide +kernel) rfl h
theorem lwc_12 (C0 : lw_C p s m meth c b L xs g) (hi : i = nI j) (hj : j + 5 ≤ L) (hL : L ≤ 2560) (hx : am_Ctr am_Lx IX10_number 2000 (.ref 0 :: [.int (xs (j + 1)), .int (xs (j + 2)), .int (xs (j + 3))]) σx (some (.int r)) σx') (hm : am_Ctr am_Lm IX11_number 2000 (.ref 0 :: [.int (xs (j + 1)), .int (xs (j + 2)), .int (xs (j + 3))]) σm (some (.int r')) σm') (hg : gc σm = gc σm' ∧ gs σm = gs σm') (h : lw_E p l e s m below meth c b g CB SB 838 i [] σx' σm') : lw_E p l e s m below meth c b g CB SB 574 i [] σx σm := by
  refine lw_ld1 C0 (by decide +kernel) ?_
  refine lw_arg (n := 1) (k := 1) C0 hi (by decide) (by omega) hL (by decide +kernel) (by decide +kernel) (by decide +kernel) (by decide +kernel) (by decide +kernel) ?_
  refine lw_arg (n := 2) (k := 2) C0 hi (by decide) (by omega) hL (by decide +kernel) (by decide +kernel) (by decide +kernel) (by decide +kernel) (by decide +kernel) ?_
  refine lw_arg (n := 3) (k := 3) C0 hi (by decide) (by omega) hL (by decide +kernel) (by decide +kernel) (by decide +kernel) (by decide +kernel) (by decide +kernel) ?_
  refine lw_callx (rest := []) C0 lwm_68 (by decide +kernel) lwl_68 hx rfl (fun v hv ν => by simp only [List.mem_cons, List.not_mem_nil, or_false] at hv; rcases hv with rfl | rfl | rfl <;> rfl) (by decide) rfl ?_
  refine lw_pop C0 (by decide +kernel) ?_
  refine lw_ld2 C0 (by decide +kernel) ?_
  refine lw_arg (n := 1) (k := 1) C0 hi (by decide) (by omega) hL (by decide +kernel) (by decide +kernel) (by decide +kernel) (by decide +kernel) (by decide +kernel) ?_
  refine lw_arg (n := 2) (k := 2) C0 hi (by decide) (by omega) hL (by decide +kernel) (by decide +kernel) (by decide +kernel) (by decide +kernel) (by decide +kernel) ?_
  refine lw_arg (n := 3) (k := 3) C0 hi (by decide) (by omega) hL (by decide +kernel) (by decide +kernel) (by decide +kernel) (by decide +kernel) (by decide +kernel) ?_
  refine lw_callm (rest := []) C0 lwm_71 (by decide +kernel) lwl_71 hm hg rfl (fun v hv ν => by simp only [List.mem_cons, List.not_mem_nil, or_false] at hv; rcases hv with rfl | rfl | rfl <;> rfl) (by decide) rfl ?_
  refine lw_pop C0 (by decide +kernel) ?_
  exact lw_goto (off := 224) (tgt := 838) C0 (by decide +kernel) rfl h
theorem lwc_13 (C0 : lw_C p s m meth c b L xs g) (hi : i = nI j) (hj : j + 5 ≤ L) (hL : L ≤ 2560) (hx : am_Ctr am_Lx IX10_solve 2000 (.ref 0 :: [.int (xs (j + 1))]) σx (some (.int r)) σx') (hm : am_Ctr am_Lm IX11_solve 2000 (.ref 0 :: [.int (xs (j + 1))]) σm (some (.int r')) σm') (hg : gc σm = gc σm' ∧ gs σm = gs σm') (h : lw_E p l e s m below meth c b g CB SB 838 i [] σx' σm') : lw_E p l e s m below meth c b g CB SB 617 i [] σx σm := by
  refine lw_ld1 C0 (by decide +kernel) ?_
  refine lw_arg (n := 1) (k := 1) C0 hi (by decide) (by omega) hL (by decide +kernel) (by decide +kernel) (by decide +kernel) (by decide +kernel) (by decide +kernel) ?_
  refine lw_callx (rest := []) C0 lwm_72 (by decide +kernel) lwl_72 hx rfl (fun v hv ν => by simp only [List.mem_cons, List.not_mem_nil, or_false] at hv; subst hv; rfl) (by decide) rfl ?_
  refine lw_pop C0 (by decide +kernel) ?_
  refine lw_ld2 C0 (by decide +kernel) ?_
  refine lw_arg (n := 1) (k := 1) C0 hi (by decide) (by omega) hL (by decide +kernel) (by decide +kernel) (by decide +kernel) (by decide +kernel) (by decide +kernel) ?_
  refine lw_callm (rest := []) C0 lwm_75 (by decide +kernel) lwl_75 hm hg rfl (fun v hv ν => by simp only [List.mem_cons, List.not_mem_nil, or_false] at hv; subst hv; rfl) (by decide) rfl ?_
  refine lw_pop C0 (by decide +kernel) ?_
  exact lw_goto (off := 201) (tgt := 838) C0 (by decide +kernel) rfl h
theorem lwc_14 (C0 : lw_C p s m meth c b L xs g) (hi : i = nI j) (hj : j + 5 ≤ L) (hL : L ≤ 2560) (hx : am_Ctr am_Lx IX10_solution 2000 (.ref 0 :: [.int (xs (j + 1)), .int (xs (j + 2))]) σx (some (.int r)) σx') (hm : am_Ctr am_Lm IX11_solution 2000 (.ref 0 :: [.int (xs (j + 1)), .int (xs (j + 2))]) σm (some (.int r')) σm') (hg : gc σm = gc σm' ∧ gs σm = gs σm') (h : lw_E p l e s m below meth c b g CB SB 838 i [] σx' σm') : lw_E p l e s m below meth c b g CB SB 640 i [] σx σm := by
  refine lw_ld1 C0 (by decide +kernel) ?_
  refine lw_arg (n := 1) (k := 1) C0 hi (by decide) (by omega) hL (by decide +kernel) (by decide +kernel) (by decide +kernel) (by decide +kernel) (by decide +kernel) ?_
  refine lw_arg (n := 2) (k := 2) C0 hi (by decide) (by omega) hL (by decide +kernel) (by decide +kernel) (by decide +kernel) (by decide +kernel) (by decide +kernel) ?_
  refine lw_callx (rest := []) C0 lwm_76 (by decide +kernel) lwl_76 hx rfl (fun v hv ν => by simp only [List.mem_cons, List.not_mem_nil, or_false] at hv; rcases hv with rfl | rfl <;> rfl) (by decide) rfl ?_
  refine lw_pop C0 (by decide +kernel) ?_
  refine lw_ld2 C0 (by decide +kernel) ?_
  refine lw_arg (n := 1) (k := 1) C0 hi (by decide) (by omega) hL (by decide +kernel) (by decide +kernel) (by decide +kernel) (by decide +kernel) (by decide +kernel) ?_
  refine lw_arg (n := 2) (k := 2) C0 hi (by decide) (by omega) hL (by decide +kernel) (by decide +kernel) (by decide +kernel) (by decide +kernel) (by decide +kernel) ?_
  refine lw_callm (rest := []) C0 lwm_79 (by decide +kernel) lwl_79 hm hg rfl (fun v hv ν => by simp only [List.mem_cons, List.not_mem_nil, or_false] at hv; rcases hv with rfl | rfl <;> rfl) (by decide) rfl ?_
  refine lw_pop C0 (by decide +kernel) ?_
  exact lw_goto (off := 168) (tgt := 838) C0 (by decide +kernel) rfl h
end LWX2
