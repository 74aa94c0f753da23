/-! ===== the constructors' machine: one step, a whole run ===== -/
abbrev cm_O : Type := (Nat × List (Option Value) × List Value × List cm_C) ⊕ List cm_C
def cm_len (i : Instr) : Nat := match i with
  | .newarray _ => 2
  | _ => am_len i
def cm_ak (t : ArrayType) : Nat := match t with
  | .int => 0
  | .long => 1
  | .byte => 2
  | .boolean => 3
  | _ => 9
/-- the fields of a new object, by its class -/
def cm_df (ty : Nat → FieldType) (N : Nat) : List Value := (List.range N).map (fun k => defaultValue (ty k))
def cm_ty : Nat → Nat → FieldType := fun c => match c with
  | 0 => tyX0
  | 1 => tyX1
  | 2 => tyX2
  | 3 => tyX3
  | 4 => tyX4
  | 5 => tyX5
  | 6 => tyX6
  | 7 => tyX8
  | 8 => tyX9
  | 9 => tyX10
  | _ => tyX11
def cm_nf : Nat → Nat := fun c => match c with
  | 0 => 12
  | 1 => 4
  | 2 => 4
  | 3 => 7
  | 4 => 9
  | 5 => 2
  | 6 => 6
  | 7 => 5
  | 8 => 11
  | 9 => 8
  | _ => 53
def cm_st (CT : Nat → List Value → List cm_C → Option (List cm_C)) (NW : List (Nat × Nat)) (I : am_I) (i : Instr) (pc : Nat) (ls : List (Option Value)) (st : List Value) (κ : List cm_C) : Option cm_O :=
  match i with
  | .iconst n => some (.inl (pc + 1, ls, .int (Int32.ofInt n) :: st, κ))
  | .bipush n => some (.inl (pc + 2, ls, .int (Int8.ofInt n).toInt32 :: st, κ))
  | .sipush n => some (.inl (pc + 3, ls, .int (Int16.ofInt n).toInt32 :: st, κ))
  | .ldc idx => (match am_lk idx (am_c32 I) with
    | some v => some (.inl (pc + 2, ls, .int v :: st, κ))
    | none => none)
  | .iload_n k => (match ls[(k : Nat)]? with
    | some (some (.int x)) => some (.inl (pc + 1, ls, .int x :: st, κ))
    | _ => none)
  | .iload k => (match ls[k]? with
    | some (some (.int x)) => some (.inl (pc + 2, ls, .int x :: st, κ))
    | _ => none)
  | .aload_n k => (match ls[(k : Nat)]? with
    | some (some (.ref x)) => some (.inl (pc + 1, ls, .ref x :: st, κ))
    | _ => none)
  | .aload k => (match ls[k]? with
    | some (some (.ref x)) => some (.inl (pc + 2, ls, .ref x :: st, κ))
    | _ => none)
  | .istore_n k => (match st with
    | .int x :: r => bif Nat.blt (k : Nat) ls.length then some (.inl (pc + 1, am_st1 ls (k : Nat) (.int x), r, κ)) else none
    | _ => none)
  | .istore k => (match st with
    | .int x :: r => bif Nat.blt k ls.length then some (.inl (pc + 2, am_st1 ls k (.int x), r, κ)) else none
    | _ => none)
  | .astore_n k => (match st with
    | .ref x :: r => bif Nat.blt (k : Nat) ls.length then some (.inl (pc + 1, am_st1 ls (k : Nat) (.ref x), r, κ)) else none
    | _ => none)
  | .astore k => (match st with
    | .ref x :: r => bif Nat.blt k ls.length then some (.inl (pc + 2, am_st1 ls k (.ref x), r, κ)) else none
    | _ => none)
  | .iinc k n => (match ls[k]? with
    | some (some (.int x)) => some (.inl (pc + 3, am_st1 ls k (.int (x + Int32.ofInt n)), st, κ))
    | _ => none)
  | .iadd => (match st with
    | .int y :: .int x :: r => some (.inl (pc + 1, ls, .int (x + y) :: r, κ))
    | _ => none)
  | .isub => (match st with
    | .int y :: .int x :: r => some (.inl (pc + 1, ls, .int (x - y) :: r, κ))
    | _ => none)
  | .imul => (match st with
    | .int y :: .int x :: r => some (.inl (pc + 1, ls, .int (x * y) :: r, κ))
    | _ => none)
  | .ior => (match st with
    | .int y :: .int x :: r => some (.inl (pc + 1, ls, .int (x ||| y) :: r, κ))
    | _ => none)
  | .ishl => (match st with
    | .int y :: .int x :: r => some (.inl (pc + 1, ls, .int (x <<< (y &&& 31)) :: r, κ))
    | _ => none)
  | .dup => (match st with
    | .ref x :: r => some (.inl (pc + 1, ls, .ref x :: .ref x :: r, κ))
    | _ => none)
  | .ifCond .ne off => (match st with
    | .int x :: r => some (.inl (if ¬ x = 0 then am_tg pc off else pc + 3, ls, r, κ))
    | _ => none)
  | .ifCond .eq off => (match st with
    | .int x :: r => some (.inl (if x = 0 then am_tg pc off else pc + 3, ls, r, κ))
    | _ => none)
  | .if_icmp .ge off => (match st with
    | .int y :: .int x :: r => some (.inl (if y ≤ x then am_tg pc off else pc + 3, ls, r, κ))
    | _ => none)
  | .goto off => some (.inl (am_tg pc off, ls, st, κ))
  | .getfield idx => (match am_lk idx (am_fl I) with
    | some (ci, k, _) => (match st with
      | .ref n :: r => (match κ[n]? with
        | some (.inr (ci', fs)) => bif Nat.beq ci' ci then (match fs[k]? with
          | some v => some (.inl (pc + 3, ls, v :: r, κ))
          | none => none) else none
        | _ => none)
      | _ => none)
    | none => none)
  | .putfield idx => (match am_lk idx (am_fl I) with
    | some (ci, k, _) => (match st with
      | v :: .ref n :: r => (match κ[n]?, vwCl[ci]? with
        | some (.inr (ci', fs)), some (C, T, _) => bif Nat.beq ci' ci && (decide (C = (am_y I).cls) && (cm_fit (parseFieldDescriptor (T k).2.2.1) v && Nat.blt k fs.length)) then some (.inl (pc + 3, ls, r, κ.set n (.inr (ci', fs.set k v)))) else none
        | _, _ => none)
      | _ => none)
    | none => none)
  | .arraylength => (match st with
    | .ref n :: r => (match κ[n]? with
      | some (.inl (_, len, _)) => some (.inl (pc + 1, ls, .int (Int32.ofNat len) :: r, κ))
      | _ => none)
    | _ => none)
  | .aastore => (match st with
    | .ref t :: .int j :: .ref n :: r => (match κ[n]?, κ[t]? with
      | some (.inl (4, len, us)), some (.inr (7, _)) => bif !(decide (j < 0)) && Nat.blt j.toNatClampNeg len then some (.inl (pc + 1, ls, r, κ.set n (.inl (4, len, us ++ [(j.toNatClampNeg, t)])))) else none
      | _, _ => none)
    | _ => none)
  | .new idx => (match am_lk idx NW with
    | some ci => bif Nat.blt κ.length am_sb then some (.inl (pc + 3, ls, .ref κ.length :: st, κ ++ [.inr (ci, cm_df (cm_ty ci) (cm_nf ci))])) else none
    | none => none)
  | .anewarray idx => (match st with
    | .int n :: r => bif (am_nw I).elem idx && (!(decide (n < 0)) && (Nat.ble n.toNatClampNeg 100000 && Nat.blt κ.length am_sb)) then some (.inl (pc + 3, ls, .ref κ.length :: r, κ ++ [.inl (4, n.toNatClampNeg, [])])) else none
    | _ => none)
  | .newarray t => (match st with
    | .int n :: r => bif Nat.blt (cm_ak t) 4 && (!(decide (n < 0)) && (Nat.ble n.toNatClampNeg 100000 && Nat.blt κ.length am_sb)) then some (.inl (pc + 2, ls, .ref κ.length :: r, κ ++ [.inl (cm_ak t, n.toNatClampNeg, [])])) else none
    | _ => none)
  | .invokespecial idx => (match am_lk idx (am_ml I) with
    | some (mj, n, 2, _) => (match st.drop n with
      | .ref o :: r => bif Nat.ble (am_cat r) 8 && Nat.ble n st.length then (match CT mj (.ref o :: (st.take n).reverse) κ with
        | some κ' => some (.inl (pc + 3, ls, r, κ'))
        | none => none) else none
      | _ => none)
    | some (_, _, 5, _) => (match st with
      | .ref _ :: r => bif Nat.ble (am_cat r) 8 then some (.inl (pc + 3, ls, r, κ)) else none
      | _ => none)
    | _ => none)
  | .return_ => (match st with
    | [] => some (.inr κ)
    | _ => none)
  | _ => none
def cm_go (CT : Nat → List Value → List cm_C → Option (List cm_C)) (NW : List (Nat × Nat)) (I : am_I) : Nat → Nat → List (Option Value) → List Value → List cm_C → Option (List cm_C)
  | 0, _, _, _, _ => none
  | n + 1, pc, ls, st, κ => match am_lk pc (am_in I) with
    | some i => (match cm_st CT NW I i pc ls st κ with
      | some (.inl (pc', ls', st', κ')) => cm_go CT NW I n pc' ls' st' κ'
      | some (.inr κ') => some κ'
      | none => none)
    | none => none
def cm_ev (MT : Nat → am_I) (NW : Nat → List (Nat × Nat)) : Nat → Nat → List Value → List cm_C → Option (List cm_C)
  | 0, _, _, _ => none
  | d + 1, mj, as, κ => bif Nat.ble (am_lsA as).length (am_mx (MT mj)) then cm_go (cm_ev MT NW d) (NW mj) (MT mj) 3000 0 (am_l0 as (am_mx (MT mj))) [] κ else none
/-- what must hold of a constructor -/
def cm_okI (MT : Nat → am_I) (NW : List (Nat × Nat)) (I : am_I) : Prop :=
  (∀ q ∈ am_in I, decode (am_code I) q.1 = .ok (q.2, cm_len q.2) ∧ (match q.2 with
    | .goto off => am_tgok q.1 off = true
    | .ifCond _ off => am_tgok q.1 off = true
    | .if_icmp _ off => am_tgok q.1 off = true
    | _ => True)) ∧
  (∀ q ∈ am_fl I, am_fok (am_y I).cls q.1 q.2.1 q.2.2.1 q.2.2.2 ∧ ∀ C T N, vwCl[q.2.1]? = some (C, T, N) → C = (am_y I).cls → Cond.fieldLink (am_y I).cls q.1 C (T q.2.2.1).2.1 (T q.2.2.1).2.2.1 ∈ am_W) ∧
  (∀ q ∈ am_ml I, am_lnk MT (am_y I).cls q) ∧ (∀ q ∈ am_c32 I, Cond.constant (am_y I).cls q.1 q.2 ∈ am_W) ∧ (∀ i ∈ am_nw I, Cond.classLink (am_y I).cls i RX8 ∈ am_W) ∧
  (∀ q ∈ NW, ∃ C T N, vwCl[q.2]? = some (C, T, N) ∧ cm_nf q.2 = N ∧ am_cok C T N ∧ (∀ k, k < N → parseFieldDescriptor (T k).2.2.1 = some (cm_ty q.2 k)) ∧ Cond.classLink (am_y I).cls q.1 C ∈ am_W ∧ Cond.instantiable C N ∈ am_W ∧ Cond.initialized C ∈ am_W) ∧
  am_rt I = none ∧ (am_y I).name = "<init>" ∧ Cond.arrayClass .int ∈ am_W ∧ Cond.arrayClass .long ∈ am_W ∧ Cond.arrayClass .byte ∈ am_W ∧ Cond.arrayClass .boolean ∈ am_W
theorem cm_dfv (t : FieldType) : defaultValue t = .null ∨ (∃ x, defaultValue t = .int x) ∨ (∃ x, defaultValue t = .long x) ∨ (∃ x, defaultValue t = .float x) ∨ ∃ x, defaultValue t = .double x := by
  cases t <;> simp [defaultValue]
theorem cm_df_len (ty : Nat → FieldType) (N : Nat) : (cm_df ty N).length = N := by simp [cm_df]
theorem cm_df_get (ty : Nat → FieldType) (N j : Nat) (h : j < N) : defaultValue (ty j) = vp_V (cm_df ty N) j := by
  simp [cm_df, vp_V, h]
theorem cm_df_mem {ty : Nat → FieldType} {N : Nat} {v : Value} (h : v ∈ cm_df ty N) : (∀ M, am_sc M v) ∧ ∀ ν, am_tr ν v = v := by
  obtain ⟨k, -, rfl⟩ := List.mem_map.mp h
  rcases cm_dfv (ty k) with e | ⟨x, e⟩ | ⟨x, e⟩ | ⟨x, e⟩ | ⟨x, e⟩ <;> rw [e] <;> exact ⟨fun _ => trivial, fun _ => rfl⟩
theorem cm_df_id (ty : Nat → FieldType) (N : Nat) (ν : Nat → Nat) : (cm_df ty N).map (am_tr ν) = cm_df ty N := by
  conv => rhs; rw [← List.map_id (cm_df ty N)]
  exact List.map_congr_left fun v hv => (cm_df_mem hv).2 ν
theorem cm_hat (t : ArrayType) (h : cm_ak t < 4) : ∃ ty, newarray.typeOf t = ty ∧ (ty = .int ∨ ty = .long ∨ ty = .byte ∨ ty = .boolean) ∧ (∀ g : am_G, (am_tys g)[cm_ak t]? = some (g.2.1 (cm_ak t), ty)) ∧ componentBytes ty ≤ 8 ∧ (∀ U cA, va_RA U cA ty = (U.vm.findClass ("[" ++ ty.toString) = some cA)) ∧ ∀ (g : am_G) (ν : Nat → Nat) (N : Nat), ∃ a0 : vp_A, cm_ent g ν (.inl (cm_ak t, N, [])) = .inl (g.2.1 (cm_ak t), a0) ∧ ∀ cA, vp_cell cA a0 = arrV cA N (fun _ => defaultValue ty) := by
  cases t with
  | int => exact ⟨_, rfl, Or.inl rfl, fun _ => rfl, by decide, fun _ _ => rfl, fun g ν N => ⟨(N, .inl (fun _ => 0)), rfl, fun _ => rfl⟩⟩
  | long => exact ⟨_, rfl, Or.inr (Or.inl rfl), fun _ => rfl, by decide, fun _ _ => rfl, fun g ν N => ⟨(N, .inr (.inl (fun _ => 0))), rfl, fun _ => rfl⟩⟩
  | byte => exact ⟨_, rfl, Or.inr (Or.inr (Or.inl rfl)), fun _ => rfl, by decide, fun _ _ => rfl, fun g ν N => ⟨(N, .inl (fun _ => 0)), rfl, fun _ => rfl⟩⟩
  | boolean => exact ⟨_, rfl, Or.inr (Or.inr (Or.inr rfl)), fun _ => rfl, by decide, fun _ _ => rfl, fun g ν N => ⟨(N, .inl (fun _ => 0)), rfl, fun _ => rfl⟩⟩
  | _ => exact absurd h (by decide)
def cm_aft (I : am_I) (d : Nat) (κ0 : List cm_C) (o : cm_O) : Prop := match o with
  | .inl q => cm_E I (d + 1) q.1 q.2.1 q.2.2.1 q.2.2.2 κ0
  | .inr κ' => κ' = κ0
section CMY
variable {MT : Nat → am_I} {NW : List (Nat × Nat)} {I : am_I} {d : Nat} {CT : Nat → List Value → List cm_C → Option (List cm_C)}
set_option maxHeartbeats 4000000 in
theorem cm_step (hI : cm_okI MT NW I) (hCT : ∀ mj as κ κ1, CT mj as κ = some κ1 → cm_Ctr (MT mj) d as κ κ1) {i : Instr} {pc : Nat} {ls : List (Option Value)} {st : List Value} {κ κ0 : List cm_C} (hm : (pc, i) ∈ am_in I) {o : cm_O} (ho : cm_st CT NW I i pc ls st κ = some o) (hK : cm_aft I d κ0 o) : cm_E I (d + 1) pc ls st κ κ0 := by
  obtain ⟨hdec, hfl, hml, h32, hnw, hNW, hrt, hini, ha0, ha1, ha2, ha3⟩ := hI
  obtain ⟨hd, hio⟩ := hdec _ hm
  dsimp only at hd hio
  unfold cm_st at ho
  split at ho

  · rename_i n
    cases ho
    exact cm_pure hK (am_s_p (am_si _)) (fun p l e R s m args below meth c H locs cells slots Q lsA ν hx hb ho hts k => lv_iconst hx hb hd rfl k)
  · rename_i n
    cases ho
    exact cm_pure hK (am_s_p (am_si _)) (fun p l e R s m args below meth c H locs cells slots Q lsA ν hx hb ho hts k => lv_bipush hx hb hd rfl k)
  · rename_i n
    cases ho
    exact cm_pure hK (am_s_p (am_si _)) (fun p l e R s m args below meth c H locs cells slots Q lsA ν hx hb ho hts k => lv_sipush hx hb hd rfl k)
  · rename_i idx
    split at ho
    · rename_i v hv
      cases ho
      exact cm_pure hK (am_s_p (am_si _)) (fun p l e R s m args below meth c H locs cells slots Q lsA ν hx hb ho hts k => lv_ldc hx hb ho (hts _ (h32 _ (am_lk_mem hv))) hd k)
    · cases ho
  · rename_i k
    split at ho
    · rename_i x hx0
      cases ho
      exact cm_load hx0 hK (fun p l e R s m args below meth c H locs cells slots Q lsA ν hx hb hl k => lv_iload_n hx hb hd rfl hl k)
    · cases ho
  · rename_i k
    split at ho
    · rename_i x hx0
      cases ho
      exact cm_load hx0 hK (fun p l e R s m args below meth c H locs cells slots Q lsA ν hx hb hl k => lv_iload hx hb hd  hl k)
    · cases ho
  · rename_i k
    split at ho
    · rename_i x hx0
      cases ho
      exact cm_load hx0 hK (fun p l e R s m args below meth c H locs cells slots Q lsA ν hx hb hl k => lv_aload_n hx hb hd rfl hl k)
    · cases ho
  · rename_i k
    split at ho
    · rename_i x hx0
      cases ho
      exact cm_load hx0 hK (fun p l e R s m args below meth c H locs cells slots Q lsA ν hx hb hl k => lv_aload hx hb hd  hl k)
    · cases ho
  · rename_i k
    split at ho
    · rename_i x r
      cases hb0 : Nat.blt (k : Nat) ls.length with
      | false => rw [hb0] at ho; cases ho
      | true =>
        rw [hb0, cond_true] at ho
        cases ho
        exact cm_store1 (i := (k : Nat)) (Nat.le_of_ble_eq_true hb0) (fun _ hs _ => hs _ List.mem_cons_self) am_s_0 hK (fun p l e R s m args below meth c H locs cells slots Q lsA ν hx hb hh hi kk => lv_istore_n hx hb hd rfl hh hi rfl kk)
    · cases ho
  · rename_i k
    split at ho
    · rename_i x r
      cases hb0 : Nat.blt k ls.length with
      | false => rw [hb0] at ho; cases ho
      | true =>
        rw [hb0, cond_true] at ho
        cases ho
        exact cm_store1 (i := k) (Nat.le_of_ble_eq_true hb0) (fun _ hs _ => hs _ List.mem_cons_self) am_s_0 hK (fun p l e R s m args below meth c H locs cells slots Q lsA ν hx hb hh hi kk => lv_istore hx hb hd  hh hi rfl kk)
    · cases ho
  · rename_i k
    split at ho
    · rename_i x r
      cases hb0 : Nat.blt (k : Nat) ls.length with
      | false => rw [hb0] at ho; cases ho
      | true =>
        rw [hb0, cond_true] at ho
        cases ho
        exact cm_store1 (i := (k : Nat)) (Nat.le_of_ble_eq_true hb0) (fun _ hs _ => hs _ List.mem_cons_self) am_s_0 hK (fun p l e R s m args below meth c H locs cells slots Q lsA ν hx hb hh hi kk => lv_astore_n hx hb hd rfl hh hi rfl kk)
    · cases ho
  · rename_i k
    split at ho
    · rename_i x r
      cases hb0 : Nat.blt k ls.length with
      | false => rw [hb0] at ho; cases ho
      | true =>
        rw [hb0, cond_true] at ho
        cases ho
        exact cm_store1 (i := k) (Nat.le_of_ble_eq_true hb0) (fun _ hs _ => hs _ List.mem_cons_self) am_s_0 hK (fun p l e R s m args below meth c H locs cells slots Q lsA ν hx hb hh hi kk => lv_astore hx hb hd  hh hi rfl kk)
    · cases ho
  · rename_i k n
    split at ho
    · rename_i x hx0
      cases ho
      refine cm_store1 (i := k) (x := .int (x + Int32.ofInt n)) ((List.getElem?_eq_some_iff.mp hx0).1) (fun _ _ _ => am_si _ _) (fun _ hs => hs) hK (fun p l e R s m args below meth c H locs cells slots Q lsA ν hx hb hh hi kk => ?_)
      obtain ⟨j, hj⟩ := List.getElem?_of_mem (am_prs_of (ν := ν) (k := 0) hx0)
      rw [Nat.zero_add] at hj
      exact lv_iinc hx hb hd hh hj rfl hi rfl kk
    · cases ho
  · skip
    split at ho
    · cases ho
      exact cm_pure hK (am_s_2 (am_si _)) (fun p l e R s m args below meth c H locs cells slots Q lsA ν hx hb ho hts k => lv_iadd hx hb hd k)
    · cases ho
  · skip
    split at ho
    · cases ho
      exact cm_pure hK (am_s_2 (am_si _)) (fun p l e R s m args below meth c H locs cells slots Q lsA ν hx hb ho hts k => lv_isub hx hb hd k)
    · cases ho
  · skip
    split at ho
    · cases ho
      exact cm_pure hK (am_s_2 (am_si _)) (fun p l e R s m args below meth c H locs cells slots Q lsA ν hx hb ho hts k => lv_imul hx hb hd k)
    · cases ho
  · skip
    split at ho
    · cases ho
      exact cm_pure hK (am_s_2 (am_si _)) (fun p l e R s m args below meth c H locs cells slots Q lsA ν hx hb ho hts k => lv_ior hx hb hd k)
    · cases ho
  · skip
    split at ho
    · cases ho
      exact cm_pure hK (am_s_2 (am_si _)) (fun p l e R s m args below meth c H locs cells slots Q lsA ν hx hb ho hts k => lv_ishl hx hb hd k)
    · cases ho
  · skip
    split at ho
    · cases ho
      exact cm_pure hK am_s_d (fun p l e R s m args below meth c H locs cells slots Q lsA ν hx hb ho hts k => lv_dup hx hb hd rfl k)
    · cases ho
  · rename_i off
    split at ho
    · rename_i x r
      cases ho
      by_cases hc : ¬ x = 0
      · rw [if_pos hc] at hK
        exact cm_two (P1 := ¬ x = 0) (P2 := x = 0) (Or.inl hc) (fun _ => hK) (fun z => absurd z hc) am_s_0 (fun p l e R s m args below meth c H locs cells slots Q lsA ν hx hb k1 k2 => lv_if_ne hx hb hd (am_tg_ok hio) k1 k2)
      · rw [if_neg hc] at hK
        exact cm_two (P1 := ¬ x = 0) (P2 := x = 0) (Or.inr (Classical.not_not.mp hc)) (fun z => absurd z hc) (fun _ => hK) am_s_0 (fun p l e R s m args below meth c H locs cells slots Q lsA ν hx hb k1 k2 => lv_if_ne hx hb hd (am_tg_ok hio) k1 k2)
    · cases ho
  · rename_i off
    split at ho
    · rename_i x r
      cases ho
      by_cases hc : x = 0
      · rw [if_pos hc] at hK
        exact cm_two (P1 := x = 0) (P2 := ¬ x = 0) (Or.inl hc) (fun _ => hK) (fun z => absurd hc z) am_s_0 (fun p l e R s m args below meth c H locs cells slots Q lsA ν hx hb k1 k2 => lv_if_eq hx hb hd (am_tg_ok hio) k1 k2)
      · rw [if_neg hc] at hK
        exact cm_two (P1 := x = 0) (P2 := ¬ x = 0) (Or.inr hc) (fun z => absurd z hc) (fun _ => hK) am_s_0 (fun p l e R s m args below meth c H locs cells slots Q lsA ν hx hb k1 k2 => lv_if_eq hx hb hd (am_tg_ok hio) k1 k2)
    · cases ho
  · rename_i off
    split at ho
    · rename_i y x r
      cases ho
      by_cases hc : y ≤ x
      · rw [if_pos hc] at hK
        exact cm_two (P1 := y ≤ x) (P2 := ¬ y ≤ x) (Or.inl hc) (fun _ => hK) (fun z => absurd hc z) am_s_00 (fun p l e R s m args below meth c H locs cells slots Q lsA ν hx hb k1 k2 => lv_icmp_ge hx hb hd (am_tg_ok hio) k1 k2)
      · rw [if_neg hc] at hK
        exact cm_two (P1 := y ≤ x) (P2 := ¬ y ≤ x) (Or.inr hc) (fun z => absurd z hc) (fun _ => hK) am_s_00 (fun p l e R s m args below meth c H locs cells slots Q lsA ν hx hb k1 k2 => lv_icmp_ge hx hb hd (am_tg_ok hio) k1 k2)
    · cases ho
  · rename_i off
    cases ho
    exact cm_pure hK (fun _ hs => hs) (fun p l e R s m args below meth c H locs cells slots Q lsA ν hx hb ho hts k => lv_goto hx hb hd (am_tg_ok hio) k)
  · rename_i idx
    split at ho
    · rename_i ci k tag hv
      split at ho
      · rename_i n r
        split at ho
        · rename_i ci2 fs he
          cases hb0 : Nat.beq ci2 ci with
          | false => rw [hb0] at ho; cases ho
          | true =>
            rw [hb0, cond_true] at ho
            have e1 : ci2 = ci := Nat.eq_of_beq_eq_true hb0
            subst e1
            split at ho
            · rename_i v hfv
              cases ho
              exact cm_get (hfl _ (am_lk_mem hv)).1 hd he hfv hK
            · cases ho
        · cases ho
      · cases ho
    · cases ho
  · rename_i idx
    split at ho
    · rename_i ci k tag hv
      split at ho
      · rename_i v n r
        split at ho
        · rename_i ci2 fs C T N he hcl
          cases hb0 : (Nat.beq ci2 ci && (decide (C = (am_y I).cls) && (cm_fit (parseFieldDescriptor (T k).2.2.1) v && Nat.blt k fs.length))) with
          | false => rw [hb0] at ho; cases ho
          | true =>
            rw [hb0, cond_true] at ho
            cases ho
            simp only [Bool.and_eq_true, decide_eq_true_eq] at hb0
            obtain ⟨b1, b2, b3, b4⟩ := hb0
            have e1 : ci2 = ci := Nat.eq_of_beq_eq_true b1
            subst e1
            have hq := hfl _ (am_lk_mem hv)
            exact cm_put hq.1 hd hcl b2 (hq.2 C T N hcl b2) hini b3 he (Nat.le_of_ble_eq_true b4) hK
        · cases ho
      · cases ho
    · cases ho
  · skip
    split at ho
    · split at ho
      · rename_i he
        cases ho
        exact cm_alen hd he hK
      · cases ho
    · cases ho
  · skip
    split at ho
    · rename_i t j n r
      split at ho
      · rename_i len us fs he ht
        cases hb0 : (!(decide (j < 0)) && Nat.blt j.toNatClampNeg len) with
        | false => rw [hb0] at ho; cases ho
        | true =>
          rw [hb0, cond_true] at ho
          cases ho
          simp only [Bool.and_eq_true, Bool.not_eq_true', decide_eq_false_iff_not] at hb0
          exact cm_aast hd he ht (fun z => z.elim hb0.1 (fun q => absurd (Nat.le_of_ble_eq_true hb0.2) (Nat.not_lt.mpr q))) hK
      · cases ho
    · cases ho
  · rename_i idx
    split at ho
    · rename_i ci hv
      cases hb0 : Nat.blt κ.length am_sb with
      | false => rw [hb0] at ho; cases ho
      | true =>
        rw [hb0, cond_true] at ho
        cases ho
        obtain ⟨C, T, N, g1, g2, g3, g4, g5, g6, g7⟩ := hNW _ (am_lk_mem hv)
        dsimp only at g1 g2 g4
        subst g2
        exact cm_newo (cm_ty ci) g3 g4 g1 g5 g6 g7 hd (cm_df_len _ _) (cm_df_get _ _) (fun v hv => (cm_df_mem hv).1) (cm_df_id _ _) (Nat.le_of_ble_eq_true hb0) hK
    · cases ho
  · rename_i idx
    split at ho
    · rename_i n r
      cases hb0 : ((am_nw I).elem idx && (!(decide (n < 0)) && (Nat.ble n.toNatClampNeg 100000 && Nat.blt κ.length am_sb))) with
      | false => rw [hb0] at ho; cases ho
      | true =>
        rw [hb0, cond_true] at ho
        cases ho
        simp only [Bool.and_eq_true, Bool.not_eq_true', decide_eq_false_iff_not] at hb0
        obtain ⟨b1, b2, b3, b4⟩ := hb0
        exact cm_newq (hnw _ (List.elem_iff.mp b1)) hd b2 (Nat.le_of_ble_eq_true b3) (Nat.le_of_ble_eq_true b4) hK
    · cases ho
  · rename_i t
    split at ho
    · rename_i n r
      cases hb0 : (Nat.blt (cm_ak t) 4 && (!(decide (n < 0)) && (Nat.ble n.toNatClampNeg 100000 && Nat.blt κ.length am_sb))) with
      | false => rw [hb0] at ho; cases ho
      | true =>
        rw [hb0, cond_true] at ho
        cases ho
        simp only [Bool.and_eq_true, Bool.not_eq_true', decide_eq_false_iff_not] at hb0
        obtain ⟨b1, b2, b3, b4⟩ := hb0
        obtain ⟨ty, t1, t2, t3⟩ := cm_hat t (Nat.le_of_ble_eq_true b1)
        have harr : Cond.arrayClass ty ∈ am_W := by rcases t2 with rfl | rfl | rfl | rfl <;> assumption
        exact cm_newa t1 t3 harr hd b2 (Nat.le_of_ble_eq_true b3) (Nat.le_of_ble_eq_true b4) hK
    · cases ho
  · rename_i idx
    split at ho
    · rename_i mj n ci hv
      have hmk := (hml _ (am_lk_mem hv)).1 (show 2 < 4 by decide)
      split at ho
      · rename_i o2 r hst
        cases hb0 : (Nat.ble (am_cat r) 8 && Nat.ble n st.length) with
        | false => rw [hb0] at ho; cases ho
        | true =>
          rw [hb0, cond_true] at ho
          split at ho
          · rename_i κ1 hc
            cases ho
            have hb2 := Bool.and_eq_true_iff.mp hb0
            exact cm_callI hmk hd (Nat.le_of_ble_eq_true hb2.2) hst (Nat.le_of_ble_eq_true hb2.1) (hCT _ _ _ _ hc) hK
          · cases ho
      · cases ho
    · rename_i hv
      have hcw := (hml _ (am_lk_mem hv)).2.2.1 rfl
      split at ho
      · rename_i r
        cases hb0 : Nat.ble (am_cat r) 8 with
        | false => rw [hb0] at ho; cases ho
        | true =>
          rw [hb0, cond_true] at ho
          cases ho
          exact cm_oinit hd hcw.1 hcw.2.1 hcw.2.2 (Nat.le_of_ble_eq_true hb0) hK
      · cases ho
    · cases ho
  · skip
    split at ho
    · cases ho
      have e : κ = κ0 := hK
      subst e
      exact cm_vret hd hrt
    · cases ho
  · cases ho
theorem cm_run (hI : cm_okI MT NW I) (hCT : ∀ mj as κ κ1, CT mj as κ = some κ1 → cm_Ctr (MT mj) d as κ κ1) : ∀ (n : Nat) {pc : Nat} {ls : List (Option Value)} {st : List Value} {κ κ0 : List cm_C}, cm_go CT NW I n pc ls st κ = some κ0 → cm_E I (d + 1) pc ls st κ κ0
  | 0, _, _, _, _, _, h => by cases h
  | n + 1, pc, ls, st, κ, κ0, h => by
    unfold cm_go at h
    split at h
    · rename_i i hi
      split at h
      · rename_i pc' ls' st' κ' ho
        exact cm_step hI hCT (am_lk_mem hi) ho (cm_run hI hCT n h)
      · rename_i κ' ho
        exact cm_step hI hCT (am_lk_mem hi) ho (Option.some.inj h)
      · cases h
    · cases h
end CMY
theorem cm_all {MT : Nat → am_I} {NW : Nat → List (Nat × Nat)} (hI : ∀ mj, cm_okI MT (NW mj) (MT mj)) (hO : ∀ mj, am_own (MT mj)) : ∀ (d mj : Nat) (as : List Value) (κ κ1 : List cm_C), cm_ev MT NW d mj as κ = some κ1 → cm_Ctr (MT mj) d as κ κ1
  | 0, _, _, _, _, h => by cases h
  | d + 1, mj, as, κ, κ1, h => by
    unfold cm_ev at h
    cases hb : Nat.ble (am_lsA as).length (am_mx (MT mj)) with
    | false => rw [hb] at h; cases h
    | true =>
      rw [hb, cond_true] at h
      exact cm_of (hO mj) (Nat.le_of_ble_eq_true hb) (cm_run (hI mj) (fun mj as κ κ1 z => cm_all hI hO d mj as κ κ1 z) 3000 h)

