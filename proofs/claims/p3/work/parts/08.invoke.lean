/-! ===== sound: calls ===== -/
theorem am_ok_same {g : am_G} {A : Nat → Prop} {s t : State} (hv : t.vm = s.vm) (hh : t.heap = s.heap) (h : am_ok g A s) : am_ok g A t := by
  obtain ⟨h1, h2, h3, h4, h5⟩ := h
  have hal : s.vm.Alike t.vm := by rw [hv]; exact Vm.Alike.refl _
  refine ⟨va_K.moved hal h1, fun w hw => ?_, by rw [hh]; exact ⟨vk_S.moved hal h3.1, va_Z.moved hal h3.2.1, h3.2.2.1, am_zf_to hal (fun _ _ _ => rfl) (fun _ z => z) h3.2.2.2⟩, fun q hq => vk_R.same hv (h4 q hq), va_AO.moved hal h5⟩
  have hn := (List.mem_filter.mp hw).2
  refine va_Nw.same ?_ hv.symm (h2 w hw)
  cases w <;> first | rfl | cases hn
theorem am_ok_warm {g : am_G} {A B : Nat → Prop} {s U : State} {locs : List Loc} (hW : s.WarmedH U.vm) (hS : va_S A s.heap U.heap locs) (hAB : ∀ q, B q → A q) (h : am_ok g A s) : am_ok g B U := by
  obtain ⟨h1, h2, h3, h4, h5⟩ := h
  refine ⟨va_K.moved hW.alike h1, fun w hw => ?_, ⟨vk_S.narrow (vk_S.moved hW.alike (vk_S.kept h3.1 hS.2.1)) hAB, va_Z.narrow (va_Z.moved hW.alike (va_Z.kept h3.2.1 hS.2.1)) hAB, h3.2.2.1, am_zf_to hW.alike hS.2.1 hAB h3.2.2.2⟩, fun q hq => vk_R.warm hW (h4 q hq), va_AO.moved hW.alike h5⟩
  have hn := (List.mem_filter.mp hw).2
  have h0 := h2 w hw
  cases w <;> first | exact va_Nw.warmF hW h0 | exact va_Nw.warmM hW h0 | cases hn
theorem am_blind {Λ : am_Lay} {g : am_G} {ν : Nat → Nat} {σ : am_S} {as : List Value} {sz : Nat} : FrameBlind (am_Pc Λ g ν σ as sz) := by
  intro a U f mk h
  obtain ⟨h1, h2, h3, h4, h5, h6, h7, h8⟩ := h
  exact ⟨h1, h2, h3, h4, h5, h6, h7, am_ok_same (s := U) rfl rfl h8⟩
/-- what must hold of a method's own words -/
def am_own (J : am_I) : Prop := plainName (am_y J).cls = true ∧ Cond.code (am_y J) (am_code J) (am_mx J) (am_rt J) ∈ am_W ∧ Cond.initialized (am_y J).cls ∈ am_W ∧ (am_y J).cls ≠ "java/lang/invoke/MethodHandle" ∧ (am_y J).cls ≠ "java/lang/invoke/VarHandle" ∧ am_mx J ≤ 20
/-- what must hold of a method's link -/
def am_mok (own : String) (idx : Nat) (J : am_I) (n kind ci : Nat) : Prop := am_own J ∧ (parseMethodDescriptor (am_y J).desc).map (fun d => d.parameters.length) = some n ∧
  (Cond.methodLink own idx (am_y J) ∈ am_W ∨ ∃ host, Cond.methodLinkNest own idx (am_y J) host ∈ am_nest) ∧ (kind = 0 → Cond.static (am_y J) ∈ am_W) ∧
  (kind = 1 → Cond.instanceMethod (am_y J) ∈ am_W ∧ Cond.selects (am_y J).cls (am_y J) (am_y J) ∈ am_W ∧ ∃ T N, vwCl[ci]? = some ((am_y J).cls, T, N)) ∧
  (kind = 2 → Cond.instanceMethod (am_y J) ∈ am_W ∧ (am_y J).name = "<init>" ∧ am_rt J = none) ∧
  (kind = 3 → Cond.instanceMethod (am_y J) ∈ am_W ∧ Cond.selects (am_y J).cls (am_y J) (am_y J) ∈ am_W ∧ (am_y J).cls = "java/lang/String")
theorem am_goodW : GoodIn am_W am_W := fun w hw => ⟨hw, good_of_word (List.mem_filter.mp hw).2⟩
theorem am_goodJ {J : am_I} (h : am_own J) : GoodIn am_W (am_ws J) := fun w hw => by
  rcases List.mem_cons.mp hw with rfl | hw
  · exact am_goodW _ h.2.1
  · exact am_goodW _ hw
theorem am_goodS {J : am_I} {l : List Cond} (hl : ∀ w ∈ l, w ∈ am_W) (h : am_own J) : GoodIn am_W (l ++ am_ws J) := fun w hw => (List.mem_append.mp hw).elim (fun z => am_goodW _ (hl w z)) (am_goodJ h w)
theorem am_catm (ν : Nat → Nat) : ∀ l : List Value, ((l.map (am_tr ν)).map fun v => v.category).sum = am_cat l
  | [] => rfl
  | a :: t => by simp only [List.map_cons, List.sum_cons, am_trc, am_cat]; rw [am_catm ν t]
section AMI
variable {Λ : am_Lay} {I : am_I} {d pc : Nat} {ls : List (Option Value)} {st : List Value} {σ : am_S} {r0 : Option Value} {σ0 : am_S}
/-- the start of a callee, in the caller's words -/
theorem am_pre {J : am_I} {p : Program} {s : State} {m : MethodId} {args : Array Value} {meth : Method} {c : Code} {g : am_G} {A : Nat → Prop} {H : Heap} {locs : List Loc} {ν0 : Nat → Nat} {n0 : Nat} {ν : Nat → Nat} {lsA : Array Slot} {bc bs : Nat} (Cx : am_Cx I p s m args meth c g A) (Iv : am_Iv Λ I g A s.heap H locs ν0 n0 ν lsA ls st σ bc bs) (as : List Value) (has : ∀ v ∈ as, am_sc (gn σ) v) : (∀ q, va_A (am_wl Λ g ν σ) H.size q → A q) ∧ ∀ U : State, U.heap = H → s.WarmedH U.vm → am_Pc Λ g ν σ as H.size (as.map (am_tr ν)).toArray U := by
  have hA : ∀ q, va_A (am_wl Λ g ν σ) H.size q → A q := by
    intro q hq
    rcases hq with ⟨k, e, hk⟩ | hq
    · exact Iv.2.1.2 k _ hk
    · exact Cx.2.2.2.2.2.2.2.2.2 q (Nat.le_trans Iv.2.2.1.1 hq)
  refine ⟨hA, fun U hU hW => ?_⟩
  subst hU
  exact ⟨rfl, rfl, Iv.1, Iv.2.1.weaken (fun _ _ _ _ => trivial), Iv.2.2.2.1, has, Iv.2.2.2.2.2.2.2.2.2, am_ok_warm hW Iv.2.2.1 hA Cx.2.2.2.2.2.2.2.2.1⟩
/-- behind a call -/
theorem am_back {J : am_I} {as rest : List Value} {r : Option Value} {σ' : am_S} {st0 : List Value} (hC : am_Ctr Λ J d as σ r σ') (h : am_E Λ I (d + 1) (pc + 3) ls (am_psh r rest) σ' r0 σ0) {p : Program} {l : Launch} {e : Env} {s : State} {m : MethodId} {args : Array Value} {below : List Frame} {meth : Method} {c : Code} {g : am_G} {A : Nat → Prop} {ν0 : Nat → Nat} {n0 bc bs : Nat} {H : Heap} {locs : List Loc} {ν : Nat → Nat} {lsA : Array Slot} {a : Array Value}
    (Cx : am_Cx I p s m args meth c g A) (Iv : am_Iv Λ I g A s.heap H locs ν0 n0 ν lsA ls st σ bc bs) (hsc : ∀ v ∈ rest, am_sc (gn σ) v)
    (hr : va_Run p l e (am_R (d + 1) (bc - gc σ0) (bs - gs σ0)) s m args below meth c H locs (bc - gc σ) (bs - gs σ) (gc σ - gc σ') (gs σ - gs σ') (F0 m pc lsA st0) (rest.map (am_tr ν)) (am_Q Λ g ν (gn σ) r σ' (va_A (am_wl Λ g ν σ) H.size) a) (va_A (am_wl Λ g ν σ) H.size)) :
    W p l e (am_R (d + 1) (bc - gc σ0) (bs - gs σ0)) s m args below meth c H locs (bc - gc σ) (bs - gs σ) (MQ below (am_Q Λ g ν0 n0 r0 σ0 A) args s (bc - gc σ0) (bs - gs σ0) A) (F0 m pc lsA st0) := by
  intro T hT X
  obtain ⟨v, st₀, t, T', L, h0, X', hL, e1, e2, ⟨⟨ν', hν, hnn, hv, hrs, hP, hD, hcl⟩, hz, hk⟩, go⟩ := hr T hT X
  rw [h0] at hz hk
  have hA := (am_pre (J := J) Cx Iv [] (fun _ z => by cases z)).1
  obtain ⟨i1, i2, i3, i4, ⟨i5, i6⟩, ⟨i7, i7'⟩, ⟨i8, i9⟩, i10, i11, i12⟩ := Iv
  have hv' : v = r.map (am_tr ν') := by cases hv; rfl
  have c1 := hC.1.1
  have c2 := hC.1.2
  have hS' : va_S A s.heap T'.heap (locs ++ L) := ⟨Nat.le_trans i3.1 (by rw [e1]; exact hz), fun q h1 h2 => by
      rw [e1, hk q (Nat.lt_of_lt_of_le h1 i3.1) (fun z => h2 (hA q z))]
      exact i3.2.1 q h1 h2, fun q hq => by
      rcases List.mem_append.mp hq with h | h
      · exact i3.2.2 q h
      · exact hA _ (hL q h)⟩
  have key := h.2 p l e s m args below meth c g A ν0 n0 bc bs T'.heap (locs ++ L) ν' lsA Cx
    ⟨by rw [e1]; exact hP, ⟨hD.1, fun k q hq => hA _ (hD.2 k q hq)⟩, hS', hcl, ⟨fun w hw => am_sc_mono hnn (i5 w hw), fun w hw => by
      cases r with
      | none => exact am_sc_mono hnn (hsc w hw)
      | some x =>
        rcases List.mem_cons.mp hw with rfl | hw
        · exact hrs _ rfl
        · exact am_sc_mono hnn (hsc w hw)⟩, ⟨by rw [am_prs_nu hν i5]; exact i7, i7'⟩, ⟨by omega, by omega⟩, fun n hn => by rw [hν n (hn.imp (fun z => Nat.lt_of_lt_of_le z i11) id)]; exact i10 n hn, Nat.le_trans i11 hnn, fun k => by rw [hν _ (Or.inr (Nat.le_add_right _ _))]; exact i12 k⟩
  have ep : (am_psh r rest).map (am_tr ν') = v.toList ++ rest.map (am_tr ν) := by
    rw [hv']
    cases r with
    | none => exact am_map_nu hν hsc
    | some x => show am_tr ν' x :: rest.map (am_tr ν') = _; rw [am_map_nu hν hsc]; rfl
  rw [ep, show bc - gc σ' = bc - gc σ + (gc σ - gc σ') by omega, show bs - gs σ' = bs - gs σ + (gs σ - gs σ') by omega] at key
  obtain ⟨t2, a1, b1⟩ := key T' rfl X'
  exact ⟨t2, go t2 a1, b1⟩
theorem am_take {n : Nat} (hn : n ≤ st.length) {as : List Value} (has : as = (st.take n).reverse) (ν : Nat → Nat) : st.map (am_tr ν) = (as.map (am_tr ν)).reverse ++ (st.drop n).map (am_tr ν) := by
  subst has
  rw [List.map_reverse, List.reverse_reverse, ← List.map_append, List.take_append_drop]
theorem am_callS {idx n ci : Nat} {J : am_I} {r : Option Value} {σ' : am_S} (hJ : am_mok (am_y I).cls idx J n 0 ci) (hd : decode (am_code I) pc = .ok (.invokestatic idx, 3)) (hn : n ≤ st.length) (hcat : am_cat (st.drop n) ≤ 8) (hC : am_Ctr Λ J d (st.take n).reverse σ r σ') (h : am_E Λ I (d + 1) (pc + 3) ls (am_psh r (st.drop n)) σ' r0 σ0) : am_E Λ I (d + 1) pc ls st σ r0 σ0 := by
  have m1 := h.1
  have m2 := hC.1
  refine ⟨⟨Nat.le_trans m1.1 m2.1, Nat.le_trans m1.2 m2.2⟩, fun p l e s m args below meth c g A ν0 n0 bc bs H locs ν lsA Cx Iv => ?_⟩
  obtain ⟨hown, hlen, hl, hs, -⟩ := hJ
  have hmx := hown.2.2.2.2.2
  have hts := Cx.2.2.2.2.2.2.1
  have has : ∀ v ∈ (st.take n).reverse, am_sc (gn σ) v := fun v hv => Iv.2.2.2.2.1.2 v (List.mem_of_mem_take (List.mem_reverse.mp hv))
  have hrs : ∀ v ∈ st.drop n, am_sc (gn σ) v := fun v hv => Iv.2.2.2.2.1.2 v (List.mem_of_mem_drop hv)
  obtain ⟨hA, hpre⟩ := am_pre (J := J) Cx Iv _ has
  have hAl : ((st.take n).reverse.map (am_tr ν)).length = n := by simp; omega
  have b1 := Iv.2.2.2.2.2.2.1.1
  have b2 := Iv.2.2.2.2.2.2.1.2
  have hM := hC.2 l g ν H.size
  refine am_back (a := ((st.take n).reverse.map (am_tr ν)).toArray) hC h Cx Iv hrs ?_
  have hroom : bc - gc σ + (gc σ - gc σ') ≤ bc - gc σ0 ∧ bs - gs σ + (gs σ - gs σ') ≤ bs - gs σ0 := ⟨by omega, by omega⟩
  have hR : d + 1 ≤ d + 1 ∧ 8 + (am_mx J + 11) + 40 * d ≤ 40 * (d + 1) := ⟨Nat.le_refl _, by omega⟩
  have hW8 : 2 * 0 + (((st.drop n).map (am_tr ν)).map fun v => v.category).sum ≤ 8 := by rw [am_catm]; omega
  rcases hl with hl | ⟨host, hl⟩
  · exact va_runS (As := (st.take n).reverse.map (am_tr ν)) ⟨Cx.1, Cx.2.1, Cx.2.2.1, Cx.2.2.2.2.2.1, hts⟩ hM ⟨callB_of n hts (am_goodJ hown) rfl rfl rfl (hts _ hown.2.2.1) (hts _ hl) ⟨hown.2.2.2.1, hown.2.2.2.2.1, hlen⟩ hR, hts _ (hs rfl)⟩ ⟨am_blind, hpre⟩ rfl hAl Iv.2.2.2.2.2.1.1.1 (am_take hn rfl ν) hW8 hd hroom
  · exact va_runSN (As := (st.take n).reverse.map (am_tr ν)) ⟨Cx.1, Cx.2.1, Cx.2.2.1, Cx.2.2.2.2.2.1, hts⟩ hM ⟨va_cnB n hts (am_goodJ hown) rfl rfl rfl (Cx.2.2.2.2.2.2.2.2.1.2.1 _ hl) (hts _ hown.2.2.1) ⟨hown.2.2.2.1, hown.2.2.2.2.1, hlen⟩ hR, hts _ (hs rfl), trivial⟩ ⟨am_blind, hpre⟩ rfl hAl Iv.2.2.2.2.2.1.1.1 (am_take hn rfl ν) hW8 hd hroom
/-- a call on an object: the receiver's cell as the kit wants it -/
theorem am_callV {idx n ci o k : Nat} {J : am_I} {r : Option Value} {σ' : am_S} {rest : List Value} (hk : k = 1 ∧ am_ob Λ o ci = true ∨ k = 3 ∧ am_sb ≤ o ∧ o < am_sb + 3) (hJ : am_mok (am_y I).cls idx J n k ci) (hd : decode (am_code I) pc = .ok (.invokevirtual idx, 3)) (hn : n ≤ st.length) (hst : st.drop n = .ref o :: rest) (hcat : am_cat rest ≤ 8) (hC : am_Ctr Λ J d (.ref o :: (st.take n).reverse) σ r σ') (h : am_E Λ I (d + 1) (pc + 3) ls (am_psh r rest) σ' r0 σ0) : am_E Λ I (d + 1) pc ls st σ r0 σ0 := by
  have m1 := h.1
  have m2 := hC.1
  refine ⟨⟨Nat.le_trans m1.1 m2.1, Nat.le_trans m1.2 m2.2⟩, fun p l e s m args below meth c g A ν0 n0 bc bs H locs ν lsA Cx Iv => ?_⟩
  obtain ⟨hown, hlen, hl, -, hv1, -, hv3⟩ := hJ
  have hmx := hown.2.2.2.2.2
  have hts := Cx.2.2.2.2.2.2.1
  have hmd : ∀ v ∈ st.drop n, am_sc (gn σ) v := fun v hv => Iv.2.2.2.2.1.2 v (List.mem_of_mem_drop hv)
  rw [hst] at hmd
  have has : ∀ v ∈ Value.ref o :: (st.take n).reverse, am_sc (gn σ) v := fun v hv => by
    rcases List.mem_cons.mp hv with rfl | hv
    · exact hmd _ List.mem_cons_self
    · exact Iv.2.2.2.2.1.2 v (List.mem_of_mem_take (List.mem_reverse.mp hv))
  have hrs : ∀ v ∈ rest, am_sc (gn σ) v := fun v hv => hmd v (List.mem_cons_of_mem _ hv)
  obtain ⟨hA, hpre⟩ := am_pre (J := J) Cx Iv _ has
  have hAl : ((st.take n).reverse.map (am_tr ν)).length = n := by simp; omega
  have b1 := Iv.2.2.2.2.2.2.1.1
  have b2 := Iv.2.2.2.2.2.2.1.2
  have hM := hC.2 l g ν H.size
  refine am_back (a := (Value.ref (ν o) :: (st.take n).reverse.map (am_tr ν)).toArray) hC h Cx Iv hrs ?_
  have hroom : bc - gc σ + (gc σ - gc σ') ≤ bc - gc σ0 ∧ bs - gs σ + (gs σ - gs σ') ≤ bs - gs σ0 := ⟨by omega, by omega⟩
  have hR : d + 1 ≤ d + 1 ∧ 8 + (am_mx J + 11) + 40 * d ≤ 40 * (d + 1) := ⟨Nat.le_refl _, by omega⟩
  have hW8 : 2 * 0 + ((rest.map (am_tr ν)).map fun v => v.category).sum ≤ 8 := by rw [am_catm]; omega
  have hstk : st.map (am_tr ν) = ((st.take n).reverse.map (am_tr ν)).reverse ++ Value.ref (ν o) :: rest.map (am_tr ν) := by
    rw [am_take hn rfl ν, hst]
    rfl
  have hcell : ∃ cellB : Cell, H[ν o]? = some cellB ∧ cellB.vm.isStatics = false ∧ s.vm.findClass (am_y J).cls = some cellB.cls := by
    rcases hk with ⟨hk, ho⟩ | ⟨hk, ho1, ho2⟩
    · obtain ⟨-, -, T, N, hc⟩ := hv1 hk
      unfold am_ob at ho
      cases hb : Nat.blt o Λ.1 with
      | false => rw [hb] at ho; cases ho
      | true =>
        rw [hb, cond_true] at ho
        have hol : o < Λ.1 := Nat.le_of_ble_eq_true hb
        cases hx : Λ.2 o with
        | inr a => rw [hx] at ho; cases ho
        | inl x =>
          rw [hx] at ho
          have e : x.1 = ci := Nat.eq_of_beq_eq_true ho
          have he := am_wl_get (Λ := Λ) (g := g) (ν := ν) (Nat.lt_of_lt_of_le hol Iv.2.2.2.1.2.1)
          rw [am_ent_obj (ci := x.1) (fds := x.2) hol hx, e] at he
          obtain ⟨r1, q1, cell, q2, q3, q4, -⟩ := Iv.1 o _ he
          have hr : r1 = ((am_y J).cls, T, N) := Option.some.inj (q1.symm.trans hc)
          subst hr
          obtain ⟨-, hfc, -⟩ := Cx.2.2.2.2.2.2.2.2.1.1.1 ci _ hc
          exact ⟨cell, q2, by rw [q4]; rfl, by rw [q3]; exact hfc⟩
    · obtain ⟨j, rfl⟩ : ∃ j, o = am_sb + j := ⟨o - am_sb, by omega⟩
      rw [Iv.2.2.2.2.2.2.2.2.2 j, (hv3 hk).2.2]
      exact vk_recv Cx.2.2.2.2.2.2.2.2.1.2.2.1.1 (by omega) Iv.2.2.1
  have hiv : Cond.instanceMethod (am_y J) ∈ am_W ∧ Cond.selects (am_y J).cls (am_y J) (am_y J) ∈ am_W := by
    rcases hk with ⟨hk, -⟩ | ⟨hk, -⟩
    · exact ⟨(hv1 hk).1, (hv1 hk).2.1⟩
    · exact ⟨(hv3 hk).1, (hv3 hk).2.1⟩
  rcases hl with hl | ⟨host, hl⟩
  · exact va_runV (C := (am_y J).cls) (b := ν o) (As := (st.take n).reverse.map (am_tr ν)) ⟨Cx.1, Cx.2.1, Cx.2.2.1, Cx.2.2.2.2.2.1, hts⟩ hM ⟨callB_of n hts (am_goodJ hown) rfl rfl rfl (hts _ hown.2.2.1) (hts _ hl) ⟨hown.2.2.2.1, hown.2.2.2.2.1, hlen⟩ hR, hts _ hiv.1, hts _ hiv.2⟩ ⟨am_blind, hcell, hpre⟩ rfl hAl Iv.2.2.2.2.2.1.1.1 hstk hW8 hd hroom
  · exact va_runVN (C := (am_y J).cls) (b := ν o) (As := (st.take n).reverse.map (am_tr ν)) ⟨Cx.1, Cx.2.1, Cx.2.2.1, Cx.2.2.2.2.2.1, hts⟩ hM ⟨va_cnB n hts (am_goodJ hown) rfl rfl rfl (Cx.2.2.2.2.2.2.2.2.1.2.1 _ hl) (hts _ hown.2.2.1) ⟨hown.2.2.2.1, hown.2.2.2.2.1, hlen⟩ hR, hts _ hiv.1, hts _ hiv.2⟩ ⟨am_blind, hcell, hpre⟩ rfl hAl Iv.2.2.2.2.2.1.1.1 hstk hW8 hd hroom
theorem am_callI {idx n ci o : Nat} {J : am_I} {r : Option Value} {σ' : am_S} {rest : List Value} (hJ : am_mok (am_y I).cls idx J n 2 ci) (hd : decode (am_code I) pc = .ok (.invokespecial idx, 3)) (hn : n ≤ st.length) (hst : st.drop n = .ref o :: rest) (hcat : am_cat rest ≤ 8) (hC : am_Ctr Λ J d (.ref o :: (st.take n).reverse) σ r σ') (h : am_E Λ I (d + 1) (pc + 3) ls (am_psh r rest) σ' r0 σ0) : am_E Λ I (d + 1) pc ls st σ r0 σ0 := by
  have m1 := h.1
  have m2 := hC.1
  refine ⟨⟨Nat.le_trans m1.1 m2.1, Nat.le_trans m1.2 m2.2⟩, fun p l e s m args below meth c g A ν0 n0 bc bs H locs ν lsA Cx Iv => ?_⟩
  obtain ⟨hown, hlen, hl, -, -, hv2, -⟩ := hJ
  obtain ⟨hi1, hi2, hi3⟩ := hv2 rfl
  have hmx := hown.2.2.2.2.2
  have hts := Cx.2.2.2.2.2.2.1
  have hmd : ∀ v ∈ st.drop n, am_sc (gn σ) v := fun v hv => Iv.2.2.2.2.1.2 v (List.mem_of_mem_drop hv)
  rw [hst] at hmd
  have has : ∀ v ∈ Value.ref o :: (st.take n).reverse, am_sc (gn σ) v := fun v hv => by
    rcases List.mem_cons.mp hv with rfl | hv
    · exact hmd _ List.mem_cons_self
    · exact Iv.2.2.2.2.1.2 v (List.mem_of_mem_take (List.mem_reverse.mp hv))
  have hrs : ∀ v ∈ rest, am_sc (gn σ) v := fun v hv => hmd v (List.mem_cons_of_mem _ hv)
  obtain ⟨hA, hpre⟩ := am_pre (J := J) Cx Iv _ has
  have hAl : ((st.take n).reverse.map (am_tr ν)).length = n := by simp; omega
  have b1 := Iv.2.2.2.2.2.2.1.1
  have b2 := Iv.2.2.2.2.2.2.1.2
  have hM := hC.2 l g ν H.size
  refine am_back (a := (Value.ref (ν o) :: (st.take n).reverse.map (am_tr ν)).toArray) hC h Cx Iv hrs ?_
  have hroom : bc - gc σ + (gc σ - gc σ') ≤ bc - gc σ0 ∧ bs - gs σ + (gs σ - gs σ') ≤ bs - gs σ0 := ⟨by omega, by omega⟩
  have hR : d + 1 ≤ d + 1 ∧ 8 + (am_mx J + 11) + 40 * d ≤ 40 * (d + 1) := ⟨Nat.le_refl _, by omega⟩
  have hW8 : 2 * 0 + ((rest.map (am_tr ν)).map fun v => v.category).sum ≤ 8 := by rw [am_catm]; omega
  have hstk : st.map (am_tr ν) = ((st.take n).reverse.map (am_tr ν)).reverse ++ Value.ref (ν o) :: rest.map (am_tr ν) := by
    rw [am_take hn rfl ν, hst]
    rfl
  have hw : am_ws J = Cond.code (am_y J) (am_code J) (am_mx J) none :: am_W := by rw [← hi3]; rfl
  rcases hl with hl | ⟨host, hl⟩
  · exact va_runI (b := ν o) (As := (st.take n).reverse.map (am_tr ν)) ⟨Cx.1, Cx.2.1, Cx.2.2.1, Cx.2.2.2.2.2.1, hts⟩ hM ⟨callB_of n hts (am_goodJ hown) hw rfl rfl (hts _ hown.2.2.1) (hts _ hl) ⟨hown.2.2.2.1, hown.2.2.2.2.1, hlen⟩ hR, hi2, hts _ hi1⟩ ⟨am_blind, hpre⟩ rfl hAl Iv.2.2.2.2.2.1.1.1 hstk hW8 hd hroom
  · exact va_runIN (b := ν o) (As := (st.take n).reverse.map (am_tr ν)) ⟨Cx.1, Cx.2.1, Cx.2.2.1, Cx.2.2.2.2.2.1, hts⟩ hM ⟨va_cnB n hts (am_goodJ hown) hw rfl rfl (Cx.2.2.2.2.2.2.2.2.1.2.1 _ hl) (hts _ hown.2.2.1) ⟨hown.2.2.2.1, hown.2.2.2.2.1, hlen⟩ hR, hi2, hts _ hi1⟩ ⟨am_blind, hpre⟩ rfl hAl Iv.2.2.2.2.2.1.1.1 hstk hW8 hd hroom
/-- System.arraycopy, ints and longs -/
def am_cpy (I : am_I) (idx : Nat) : Prop := Cond.methodLink (am_y I).cls idx arraycopyName ∈ am_W ∧ Cond.native arraycopyName ∈ lw_tbl ∧ Cond.static arraycopyName ∈ am_W ∧ Cond.initialized "java/lang/System" ∈ am_W
end AMI
/-! ===== entry ===== -/
def am_lsA : List Value → List (Option Value)
  | [] => []
  | v :: r => bif v.category == 2 then some v :: none :: am_lsA r else some v :: am_lsA r
def am_l0 (as : List Value) (mx : Nat) : List (Option Value) := am_lsA as ++ List.replicate (mx - (am_lsA as).length) none
theorem am_prs_lsA {ν : Nat → Nat} : ∀ {as : List Value} {k : Nat} {q : Nat × Value}, q ∈ am_prs ν k (am_lsA as) → q ∈ lv_args k (as.map (am_tr ν))
  | [], k, q, h => by cases h
  | v :: r, k, q, h => by
    unfold am_lsA at h
    cases hc : (v.category == 2) with
    | true =>
      rw [hc, cond_true] at h
      have hv : v.category = 2 := by simpa using hc
      rcases List.mem_cons.mp h with h | h
      · subst h
        simp [lv_args]
      · have h1 := am_prs_lsA (as := r) (k := k + 1 + 1) h
        simp only [List.map_cons, lv_args, am_trc, hv]
        exact List.mem_cons_of_mem _ h1
    | false =>
      rw [hc, cond_false] at h
      have hv : v.category = 1 := by cases v <;> first | rfl | simp [Value.category] at hc
      rcases List.mem_cons.mp h with h | h
      · subst h
        simp [lv_args]
      · have h1 := am_prs_lsA (as := r) (k := k + 1) h
        simp only [List.map_cons, lv_args, am_trc, hv]
        exact List.mem_cons_of_mem _ h1
theorem am_prs_app {ν : Nat → Nat} {as bs : List (Option Value)} {q : Nat × Value} (hb : ∀ v, some v ∉ bs) (h : q ∈ am_prs ν 0 (as ++ bs)) : q ∈ am_prs ν 0 as := by
  obtain ⟨j, v, h1, rfl⟩ := am_prs_mem h
  by_cases hj : j < as.length
  · rw [List.getElem?_append_left hj] at h1
    exact am_prs_of h1
  · rw [List.getElem?_append_right (by omega)] at h1
    exact absurd (List.mem_of_getElem? h1) (hb v)
theorem am_lsA_len {ν : Nat → Nat} : ∀ as : List Value, (am_lsA as).length = (lg_sl (as.map (am_tr ν))).length
  | [] => rfl
  | v :: r => by
    unfold am_lsA lg_sl
    rw [List.map_cons, List.flatMap_cons, List.length_append, am_trc]
    have ih := am_lsA_len (ν := ν) r
    unfold lg_sl at ih
    cases hc : (v.category == 2) with
    | true =>
      have hv : v.category = 2 := by simpa using hc
      rw [cond_true, if_pos hv]
      simp only [List.length_cons, List.length_nil]
      omega
    | false =>
      have hv : ¬ v.category = 2 := by simpa using hc
      rw [cond_false, if_neg hv]
      simp only [List.length_cons, List.length_nil]
      omega
theorem am_lsA_mem : ∀ {as : List Value} {v : Value}, some v ∈ am_lsA as → v ∈ as
  | [], _, h => by cases h
  | w :: r, v, h => by
    unfold am_lsA at h
    cases hc : (w.category == 2) with
    | true =>
      rw [hc, cond_true] at h
      rcases List.mem_cons.mp h with h | h
      · cases h; exact List.mem_cons_self
      · rcases List.mem_cons.mp h with h | h
        · cases h
        · exact List.mem_cons_of_mem _ (am_lsA_mem h)
    | false =>
      rw [hc, cond_false] at h
      rcases List.mem_cons.mp h with h | h
      · cases h; exact List.mem_cons_self
      · exact List.mem_cons_of_mem _ (am_lsA_mem h)
/-- a contract out of a walk -/
theorem am_of {Λ : am_Lay} {I : am_I} {d : Nat} {as : List Value} {σ : am_S} {r0 : Option Value} {σ0 : am_S} (ho : am_own I) (hl : (am_lsA as).length ≤ am_mx I) (h : am_E Λ I d 0 (am_l0 as (am_mx I)) [] σ r0 σ0) : am_Ctr Λ I d as σ r0 σ0 := by
  refine ⟨h.1, fun l g ν sz => ?_⟩
  refine Met.ofW (cc := am_code I) (maxL := am_mx I) (ret := am_rt I) ho.1 rfl ?_
  intro p e s m args below meth c s₁ B hml hv
  obtain ⟨rfl, hsz, hP, hD, hcl, hsc, hstr, hok⟩ := hv
  have hts0 := atoms_spec (ws := am_ws I) B.pre
  have hts : ∀ w ∈ am_W, w.before (as.map (am_tr ν)).toArray s = true := fun w hw => hts0 w (List.mem_cons_of_mem _ hw)
  subst hsz
  have hn : (lg_sl (as.map (am_tr ν))).length ≤ am_mx I := by rw [← am_lsA_len]; exact hl
  have hl0 := lv_entry (as.map (am_tr ν)) hn
  rw [lg_entry_eq]
  generalize (lg_sl (as.map (am_tr ν)) ++ List.replicate (am_mx I - (lg_sl (as.map (am_tr ν))).length) Slot.unset).toArray = lsA at hl0 ⊢
  have key := h.2 p l e s m (as.map (am_tr ν)).toArray below meth c g (va_A (am_wl Λ g ν σ) s.heap.size) ν (gn σ) (gc σ) (gs σ) s.heap [] ν lsA
    ⟨B.exec, B.bytes, hml, B.returns, B.notSynchronized, findClass_of_methodNamed B.named, hts, (name_of_methodNamed B.named B.method).1, hok, fun q hq => Or.inr hq⟩
    ⟨hP, hD.self, va_S.rf, hcl, ⟨fun v hv => ?_, fun v hv => by cases hv⟩, ⟨am_hsub hl0 fun q hq => am_prs_lsA (am_prs_app (fun v hv => by simp at hv) hq), ?_⟩, ⟨Nat.le_refl _, Nat.le_refl _⟩, fun _ _ => rfl, Nat.le_refl _, hstr⟩
  · rw [Nat.sub_self, Nat.sub_self] at key
    exact key
  · rcases List.mem_append.mp hv with hv | hv
    · exact hsc v (am_lsA_mem hv)
    · simp at hv
  · unfold am_l0
    rw [List.length_append, List.length_replicate]
    omega
