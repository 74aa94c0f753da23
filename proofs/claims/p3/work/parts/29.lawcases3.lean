section LWX3
variable {p : Program} {l : Launch} {e : Env} {s : State} {m : MethodId} {below : List Frame} {meth : Method} {c : Code} {b L : Nat} {xs : Nat → Int32} {g : am_G} {CB SB : Nat} {i : Int32} {σx σm σx' σm' : am_S} {j : Nat} {r r' : Int32}
theorem lwc_15 (C0 : lw_C p s m meth c b L xs g) (hi : i = nI j) (hj : j + 5 ≤ L) (hL : L ≤ 2560) (hx : am_Ctr am_Lx IX10_unify 2000 (.ref 0 :: [.int (xs (j + 1)), .int (xs (j + 2)), .int (xs (j + 3))]) σx (some (.int r)) σx') (hm : am_Ctr am_Lm IX11_unify 2000 (.ref 0 :: [.int (xs (j + 1)), .int (xs (j + 2)), .int (xs (j + 3))]) σm (some (.int r')) σm') (hg : gc σm = gc σm' ∧ gs σm = gs σm') (h : lw_E p l e s m below meth c b g CB SB 838 i [] σx' σm') : lw_E p l e s m below meth c b g CB SB 673 i [] σx σm := by
  refine lw_ld1 C0 (by decide +kernel) ?_
  refine lw_arg (n := 1) (k := 1) C0 hi (by decide) (by omega) hL (by decide +kernel) (by decide +kernel) (by decide +kernel) (by decide +kernel) (by decide +kernel) ?_
  refine lw_arg (n := 2) (k := 2) C0 hi (by decide) (by omega) hL (by decide +kernel) (by decide +kernel) (by decide +kernel) (by decide +kernel) (by decide +kernel) ?_
  refine lw_arg (n := 3) (k := 3) C0 hi (by decide) (by omega) hL (by decide +kernel) (by decide +kernel) (by decide +kernel) (by decide +kernel) (by decide +kernel) ?_
  refine lw_callx (rest := []) C0 lwm_80 (by decide +kernel) lwl_80 hx rfl (fun v hv ν => by simp only [List.mem_cons, List.not_mem_nil, or_false] at hv; rcases hv with rfl | rfl | rfl <;> rfl) (by decide) rfl ?_
  refine lw_pop C0 (by decide +kernel) ?_
  refine lw_ld2 C0 (by decide +kernel) ?_
  refine lw_arg (n := 1) (k := 1) C0 hi (by decide) (by omega) hL (by decide +kernel) (by decide +kernel) (by decide +kernel) (by decide +kernel) (by decide +kernel) ?_
  refine lw_arg (n := 2) (k := 2) C0 hi (by decide) (by omega) hL (by decide +kernel) (by decide +kernel) (by decide +kernel) (by decide +kernel) (by decide +kernel) ?_
  refine lw_arg (n := 3) (k := 3) C0 hi (by decide) (by omega) hL (by decide +kernel) (by decide +kernel) (by decide +kernel) (by decide +kernel) (by decide +kernel) ?_
  refine lw_callm (rest := []) C0 lwm_83 (by decide +kernel) lwl_83 hm hg rfl (fun v hv ν => by simp only [List.mem_cons, List.not_mem_nil, or_false] at hv; rcases hv with rfl | rfl | rfl <;> rfl) (by decide) rfl ?_
  refine lw_pop C0 (by decide +kernel) ?_
  exact lw_goto (off := 125) (tgt := 838) C0 (by decide +kernel) rfl h
theorem lwc_16 (C0 : lw_C p s m meth c b L xs g) (hi : i = nI j) (hj : j + 5 ≤ L) (hL : L ≤ 2560) (hx : am_Ctr am_Lx IX10_bases 2000 (.ref 0 :: [.int (xs (j + 1))]) σx (some (.int r)) σx') (hm : am_Ctr am_Lm IX11_bases 2000 (.ref 0 :: [.int (xs (j + 1))]) σm (some (.int r')) σm') (hg : gc σm = gc σm' ∧ gs σm = gs σm') (h : lw_E p l e s m below meth c b g CB SB 838 i [] σx' σm') : lw_E p l e s m below meth c b g CB SB 716 i [] σx σm := by
  refine lw_ld1 C0 (by decide +kernel) ?_
  refine lw_arg (n := 1) (k := 1) C0 hi (by decide) (by omega) hL (by decide +kernel) (by decide +kernel) (by decide +kernel) (by decide +kernel) (by decide +kernel) ?_
  refine lw_callx (rest := []) C0 lwm_84 (by decide +kernel) lwl_84 hx rfl (fun v hv ν => by simp only [List.mem_cons, List.not_mem_nil, or_false] at hv; subst hv; rfl) (by decide) rfl ?_
  refine lw_pop C0 (by decide +kernel) ?_
  refine lw_ld2 C0 (by decide +kernel) ?_
  refine lw_arg (n := 1) (k := 1) C0 hi (by decide) (by omega) hL (by decide +kernel) (by decide +kernel) (by decide +kernel) (by decide +kernel) (by decide +kernel) ?_
  refine lw_callm (rest := []) C0 lwm_87 (by decide +kernel) lwl_87 hm hg rfl (fun v hv ν => by simp only [List.mem_cons, List.not_mem_nil, or_false] at hv; subst hv; rfl) (by decide) rfl ?_
  refine lw_pop C0 (by decide +kernel) ?_
  exact lw_goto (off := 102) (tgt := 838) C0 (by decide +kernel) rfl h
theorem lwc_17 (C0 : lw_C p s m meth c b L xs g) (hi : i = nI j) (hj : j + 5 ≤ L) (hL : L ≤ 2560) (hx : am_Ctr am_Lx IX10_base 2000 (.ref 0 :: [.int (xs (j + 1)), .int (xs (j + 2))]) σx (some (.int r)) σx') (hm : am_Ctr am_Lm IX11_base 2000 (.ref 0 :: [.int (xs (j + 1)), .int (xs (j + 2))]) σm (some (.int r')) σm') (hg : gc σm = gc σm' ∧ gs σm = gs σm') (h : lw_E p l e s m below meth c b g CB SB 838 i [] σx' σm') : lw_E p l e s m below meth c b g CB SB 739 i [] σx σm := by
  refine lw_ld1 C0 (by decide +kernel) ?_
  refine lw_arg (n := 1) (k := 1) C0 hi (by decide) (by omega) hL (by decide +kernel) (by decide +kernel) (by decide +kernel) (by decide +kernel) (by decide +kernel) ?_
  refine lw_arg (n := 2) (k := 2) C0 hi (by decide) (by omega) hL (by decide +kernel) (by decide +kernel) (by decide +kernel) (by decide +kernel) (by decide +kernel) ?_
  refine lw_callx (rest := []) C0 lwm_88 (by decide +kernel) lwl_88 hx rfl (fun v hv ν => by simp only [List.mem_cons, List.not_mem_nil, or_false] at hv; rcases hv with rfl | rfl <;> rfl) (by decide) rfl ?_
  refine lw_pop C0 (by decide +kernel) ?_
  refine lw_ld2 C0 (by decide +kernel) ?_
  refine lw_arg (n := 1) (k := 1) C0 hi (by decide) (by omega) hL (by decide +kernel) (by decide +kernel) (by decide +kernel) (by decide +kernel) (by decide +kernel) ?_
  refine lw_arg (n := 2) (k := 2) C0 hi (by decide) (by omega) hL (by decide +kernel) (by decide +kernel) (by decide +kernel) (by decide +kernel) (by decide +kernel) ?_
  refine lw_callm (rest := []) C0 lwm_91 (by decide +kernel) lwl_91 hm hg rfl (fun v hv ν => by simp only [List.mem_cons, List.not_mem_nil, or_false] at hv; rcases hv with rfl | rfl <;> rfl) (by decide) rfl ?_
  refine lw_pop C0 (by decide +kernel) ?_
  exact lw_goto (off := 69) (tgt := 838) C0 (by decide +kernel) rfl h
theorem lwc_18 (C0 : lw_C p s m meth c b L xs g) (hi : i = nI j) (hj : j + 5 ≤ L) (hL : L ≤ 2560) (hx : am_Ctr am_Lx IX10_set 2000 (.ref 0 :: [.int (xs (j + 1))]) σx (some (.int r)) σx') (hm : am_Ctr am_Lm IX11_set 2000 (.ref 0 :: [.int (xs (j + 1))]) σm (some (.int r')) σm') (hg : gc σm = gc σm' ∧ gs σm = gs σm') (h : lw_E p l e s m below meth c b g CB SB 838 i [] σx' σm') : lw_E p l e s m below meth c b g CB SB 772 i [] σx σm := by
  refine lw_ld1 C0 (by decide +kernel) ?_
  refine lw_arg (n := 1) (k := 1) C0 hi (by decide) (by omega) hL (by decide +kernel) (by decide +kernel) (by decide +kernel) (by decide +kernel) (by decide +kernel) ?_
  refine lw_callx (rest := []) C0 lwm_92 (by decide +kernel) lwl_92 hx rfl (fun v hv ν => by simp only [List.mem_cons, List.not_mem_nil, or_false] at hv; subst hv; rfl) (by decide) rfl ?_
  refine lw_pop C0 (by decide +kernel) ?_
  refine lw_ld2 C0 (by decide +kernel) ?_
  refine lw_arg (n := 1) (k := 1) C0 hi (by decide) (by omega) hL (by decide +kernel) (by decide +kernel) (by decide +kernel) (by decide +kernel) (by decide +kernel) ?_
  refine lw_callm (rest := []) C0 lwm_95 (by decide +kernel) lwl_95 hm hg rfl (fun v hv ν => by simp only [List.mem_cons, List.not_mem_nil, or_false] at hv; subst hv; rfl) (by decide) rfl ?_
  refine lw_pop C0 (by decide +kernel) ?_
  exact lw_goto (off := 46) (tgt := 838) C0 (by decide +kernel) rfl h
theorem lwc_19 (C0 : lw_C p s m meth c b L xs g) (hi : i = nI j) (hj : j + 5 ≤ L) (hL : L ≤ 2560) (hx : am_Ctr am_Lx IX10_unified 2000 (.ref 0 :: [.int (xs (j + 1)), .int (xs (j + 2)), .int (xs (j + 3))]) σx (some (.int r)) σx') (hm : am_Ctr am_Lm IX11_unified 2000 (.ref 0 :: [.int (xs (j + 1)), .int (xs (j + 2)), .int (xs (j + 3))]) σm (some (.int r')) σm') (hg : gc σm = gc σm' ∧ gs σm = gs σm') (h : lw_E p l e s m below meth c b g CB SB 838 i [] σx' σm') : lw_E p l e s m below meth c b g CB SB 795 i [] σx σm := by
  refine lw_ld1 C0 (by decide +kernel) ?_
  refine lw_arg (n := 1) (k := 1) C0 hi (by decide) (by omega) hL (by decide +kernel) (by decide +kernel) (by decide +kernel) (by decide +kernel) (by decide +kernel) ?_
  refine lw_arg (n := 2) (k := 2) C0 hi (by decide) (by omega) hL (by decide +kernel) (by decide +kernel) (by decide +kernel) (by decide +kernel) (by decide +kernel) ?_
  refine lw_arg (n := 3) (k := 3) C0 hi (by decide) (by omega) hL (by decide +kernel) (by decide +kernel) (by decide +kernel) (by decide +kernel) (by decide +kernel) ?_
  refine lw_callx (rest := []) C0 lwm_96 (by decide +kernel) lwl_96 hx rfl (fun v hv ν => by simp only [List.mem_cons, List.not_mem_nil, or_false] at hv; rcases hv with rfl | rfl | rfl <;> rfl) (by decide) rfl ?_
  refine lw_pop C0 (by decide +kernel) ?_
  refine lw_ld2 C0 (by decide +kernel) ?_
  refine lw_arg (n := 1) (k := 1) C0 hi (by decide) (by omega) hL (by decide +kernel) (by decide +kernel) (by decide +kernel) (by decide +kernel) (by decide +kernel) ?_
  refine lw_arg (n := 2) (k := 2) C0 hi (by decide) (by omega) hL (by decide +kernel) (by decide +kernel) (by decide +kernel) (by decide +kernel) (by decide +kernel) ?_
  refine lw_arg (n := 3) (k := 3) C0 hi (by decide) (by omega) hL (by decide +kernel) (by decide +kernel) (by decide +kernel) (by decide +kernel) (by decide +kernel) ?_
  refine lw_callm (rest := []) C0 lwm_99 (by decide +kernel) lwl_99 hm hg rfl (fun v hv ν => by simp only [List.mem_cons, List.not_mem_nil, or_false] at hv; rcases hv with rfl | rfl | rfl <;> rfl) (by decide) rfl ?_
  refine lw_pop C0 (by decide +kernel) ?_
  exact lw_goto (off := 3) (tgt := 838) C0 (by decide +kernel) rfl h
end LWX3
