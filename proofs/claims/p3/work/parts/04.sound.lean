/-! ===== sound: each step of the abstract machine is one of the kit's rows ===== -/
section AMS
variable {Λ : am_Lay} {I : am_I} {d pc : Nat} {ls : List (Option Value)} {st : List Value} {σ : am_S} {r0 : Option Value} {σ0 : am_S}
/-- a step that touches the stack alone -/
theorem am_pure {pc' : Nat} {st' : List Value} (h : am_E Λ I d pc' ls st' σ r0 σ0) (hs : ∀ N, (∀ v ∈ st, am_sc N v) → ∀ v ∈ st', am_sc N v)
    (hw : ∀ (p : Program) (l : Launch) (e : Env) (R : Room) (s : State) (m : MethodId) (args : Array Value) (below : List Frame) (meth : Method) (c : Code) (H : Heap) (locs : List Loc) (cells slots : Nat) (Q : State → Prop) (lsA : Array Slot) (ν : Nat → Nat), p.tables.exec = Jvm.exec → c.code = am_code I → s.vm.findClass (am_y I).cls = some m.cls → (∀ w ∈ am_W, w.before args s = true) →
      W p l e R s m args below meth c H locs cells slots Q (F0 m pc' lsA (st'.map (am_tr ν))) → W p l e R s m args below meth c H locs cells slots Q (F0 m pc lsA (st.map (am_tr ν)))) : am_E Λ I d pc ls st σ r0 σ0 := by
  refine ⟨h.1, fun p l e s m args below meth c g A ν0 n0 bc bs H locs ν lsA Cx Iv => ?_⟩
  have k := h.2 p l e s m args below meth c g A ν0 n0 bc bs H locs ν lsA Cx ⟨Iv.1, Iv.2.1, Iv.2.2.1, Iv.2.2.2.1, ⟨Iv.2.2.2.2.1.1, hs _ Iv.2.2.2.2.1.2⟩, Iv.2.2.2.2.2⟩
  exact hw p l e _ s m args below meth c H locs _ _ _ lsA ν Cx.1 Cx.2.1 Cx.2.2.2.2.2.1 Cx.2.2.2.2.2.2.1 k
/-- a step that goes two ways -/
theorem am_two {P1 P2 : Prop} {pc1 pc2 : Nat} {st' : List Value} (hP : P1 ∨ P2) (h1 : P1 → am_E Λ I d pc1 ls st' σ r0 σ0) (h2 : P2 → am_E Λ I d pc2 ls st' σ r0 σ0) (hs : ∀ N, (∀ v ∈ st, am_sc N v) → ∀ v ∈ st', am_sc N v)
    (hw : ∀ (p : Program) (l : Launch) (e : Env) (R : Room) (s : State) (m : MethodId) (args : Array Value) (below : List Frame) (meth : Method) (c : Code) (H : Heap) (locs : List Loc) (cells slots : Nat) (Q : State → Prop) (lsA : Array Slot) (ν : Nat → Nat), p.tables.exec = Jvm.exec → c.code = am_code I →
      (P1 → W p l e R s m args below meth c H locs cells slots Q (F0 m pc1 lsA (st'.map (am_tr ν)))) → (P2 → W p l e R s m args below meth c H locs cells slots Q (F0 m pc2 lsA (st'.map (am_tr ν)))) → W p l e R s m args below meth c H locs cells slots Q (F0 m pc lsA (st.map (am_tr ν)))) : am_E Λ I d pc ls st σ r0 σ0 := by
  refine ⟨hP.elim (fun z => (h1 z).1) (fun z => (h2 z).1), fun p l e s m args below meth c g A ν0 n0 bc bs H locs ν lsA Cx Iv => ?_⟩
  have Iv' : am_Iv Λ I g A s.heap H locs ν0 n0 ν lsA ls st' σ bc bs := ⟨Iv.1, Iv.2.1, Iv.2.2.1, Iv.2.2.2.1, ⟨Iv.2.2.2.2.1.1, hs _ Iv.2.2.2.2.1.2⟩, Iv.2.2.2.2.2⟩
  exact hw p l e _ s m args below meth c H locs _ _ _ lsA ν Cx.1 Cx.2.1 (fun z => (h1 z).2 p l e s m args below meth c g A ν0 n0 bc bs H locs ν lsA Cx Iv') (fun z => (h2 z).2 p l e s m args below meth c g A ν0 n0 bc bs H locs ν lsA Cx Iv')
/-- a step that reads a local -/
theorem am_load {pc' i : Nat} {x : Value} (hx : ls[i]? = some (some x)) (h : am_E Λ I d pc' ls (x :: st) σ r0 σ0)
    (hw : ∀ (p : Program) (l : Launch) (e : Env) (R : Room) (s : State) (m : MethodId) (args : Array Value) (below : List Frame) (meth : Method) (c : Code) (H : Heap) (locs : List Loc) (cells slots : Nat) (Q : State → Prop) (lsA : Array Slot) (ν : Nat → Nat), p.tables.exec = Jvm.exec → c.code = am_code I → lsA[i]? = some (.val (am_tr ν x)) →
      W p l e R s m args below meth c H locs cells slots Q (F0 m pc' lsA (am_tr ν x :: st.map (am_tr ν))) → W p l e R s m args below meth c H locs cells slots Q (F0 m pc lsA (st.map (am_tr ν)))) : am_E Λ I d pc ls st σ r0 σ0 := by
  refine ⟨h.1, fun p l e s m args below meth c g A ν0 n0 bc bs H locs ν lsA Cx Iv => ?_⟩
  have hsx := Iv.2.2.2.2.1.1 x (List.mem_of_getElem? hx)
  have k := h.2 p l e s m args below meth c g A ν0 n0 bc bs H locs ν lsA Cx ⟨Iv.1, Iv.2.1, Iv.2.2.1, Iv.2.2.2.1, ⟨Iv.2.2.2.2.1.1, fun v hv => by
    rcases List.mem_cons.mp hv with rfl | hv
    · exact hsx
    · exact Iv.2.2.2.2.1.2 v hv⟩, Iv.2.2.2.2.2⟩
  exact hw p l e _ s m args below meth c H locs _ _ _ lsA ν Cx.1 Cx.2.1 (am_at Iv.2.2.2.2.2.1.1 hx) k
/-- a step that writes a local of one word -/
theorem am_store1 {pc' i : Nat} {x : Value} {st' : List Value} (hi : i < ls.length) (hsx : ∀ N, (∀ v ∈ st, am_sc N v) → (∀ v, some v ∈ ls → am_sc N v) → am_sc N x) (hs : ∀ N, (∀ v ∈ st, am_sc N v) → ∀ v ∈ st', am_sc N v) (h : am_E Λ I d pc' (am_st1 ls i x) st' σ r0 σ0)
    (hw : ∀ (p : Program) (l : Launch) (e : Env) (R : Room) (s : State) (m : MethodId) (args : Array Value) (below : List Frame) (meth : Method) (c : Code) (H : Heap) (locs : List Loc) (cells slots : Nat) (Q : State → Prop) (lsA : Array Slot) (ν : Nat → Nat), p.tables.exec = Jvm.exec → c.code = am_code I → lv_has lsA (am_mx I) (am_prs ν 0 ls) → i < am_mx I →
      (∀ lsB : Array Slot, lv_has lsB (am_mx I) ((i, am_tr ν x) :: (am_prs ν 0 ls).filter (fun q => !(q.1 == i) && !(q.1 + 1 == i && q.2.category == 2))) → W p l e R s m args below meth c H locs cells slots Q (F0 m pc' lsB (st'.map (am_tr ν)))) → W p l e R s m args below meth c H locs cells slots Q (F0 m pc lsA (st.map (am_tr ν)))) : am_E Λ I d pc ls st σ r0 σ0 := by
  refine ⟨h.1, fun p l e s m args below meth c g A ν0 n0 bc bs H locs ν lsA Cx Iv => ?_⟩
  obtain ⟨i1, i2, i3, i4, ⟨i5, i6⟩, ⟨i7, i8⟩, i9⟩ := Iv
  refine hw p l e _ s m args below meth c H locs _ _ _ lsA ν Cx.1 Cx.2.1 i7 (by rw [← i8]; exact hi) fun lsB hB => ?_
  exact h.2 p l e s m args below meth c g A ν0 n0 bc bs H locs ν lsB Cx ⟨i1, i2, i3, i4, ⟨fun v hv => (am_st1_mem hv).elim (i5 v) (fun z => z ▸ hsx _ i6 i5), hs _ i6⟩, ⟨am_st1_has hB, by rw [am_st1_len]; exact i8⟩, i9⟩
theorem am_store2 {pc' i : Nat} {x : Value} {st' : List Value} (hi : i + 1 < ls.length) (hsx : ∀ N, am_sc N x) (hs : ∀ N, (∀ v ∈ st, am_sc N v) → ∀ v ∈ st', am_sc N v) (h : am_E Λ I d pc' (am_st2 ls i x) st' σ r0 σ0)
    (hw : ∀ (p : Program) (l : Launch) (e : Env) (R : Room) (s : State) (m : MethodId) (args : Array Value) (below : List Frame) (meth : Method) (c : Code) (H : Heap) (locs : List Loc) (cells slots : Nat) (Q : State → Prop) (lsA : Array Slot) (ν : Nat → Nat), p.tables.exec = Jvm.exec → c.code = am_code I → lv_has lsA (am_mx I) (am_prs ν 0 ls) → i + 1 < am_mx I →
      (∀ lsB : Array Slot, lv_has lsB (am_mx I) ((i, am_tr ν x) :: (am_prs ν 0 ls).filter (fun q => !(q.1 == i) && (!(q.1 == i + 1) && !(q.1 + 1 == i && q.2.category == 2)))) → W p l e R s m args below meth c H locs cells slots Q (F0 m pc' lsB (st'.map (am_tr ν)))) → W p l e R s m args below meth c H locs cells slots Q (F0 m pc lsA (st.map (am_tr ν)))) : am_E Λ I d pc ls st σ r0 σ0 := by
  refine ⟨h.1, fun p l e s m args below meth c g A ν0 n0 bc bs H locs ν lsA Cx Iv => ?_⟩
  obtain ⟨i1, i2, i3, i4, ⟨i5, i6⟩, ⟨i7, i8⟩, i9⟩ := Iv
  refine hw p l e _ s m args below meth c H locs _ _ _ lsA ν Cx.1 Cx.2.1 i7 (by rw [← i8]; exact hi) fun lsB hB => ?_
  exact h.2 p l e s m args below meth c g A ν0 n0 bc bs H locs ν lsB Cx ⟨i1, i2, i3, i4, ⟨fun v hv => (am_st2_mem hv).elim (i5 v) (fun z => z ▸ hsx _), hs _ i6⟩, ⟨am_st2_has hB, by rw [am_st2_len]; exact i8⟩, i9⟩
/-- what is known of locals may be forgotten -/
theorem am_forget {ls' : List (Option Value)} (hlen : ls'.length = ls.length) (hsub : ∀ (i : Nat) (v : Value), ls'[i]? = some (some v) → ls[i]? = some (some v)) (h : am_E Λ I d pc ls' st σ r0 σ0) : am_E Λ I d pc ls st σ r0 σ0 := by
  refine ⟨h.1, fun p l e s m args below meth c g A ν0 n0 bc bs H locs ν lsA Cx Iv => ?_⟩
  obtain ⟨i1, i2, i3, i4, ⟨i5, i6⟩, ⟨i7, i8⟩, i9⟩ := Iv
  refine h.2 p l e s m args below meth c g A ν0 n0 bc bs H locs ν lsA Cx ⟨i1, i2, i3, i4, ⟨fun v hv => ?_, i6⟩, ⟨am_hsub i7 fun q hq => ?_, hlen.trans i8⟩, i9⟩
  · obtain ⟨j, hj⟩ := List.getElem?_of_mem hv
    exact i5 v (List.mem_of_getElem? (hsub j v hj))
  · obtain ⟨j, v, h1, rfl⟩ := am_prs_mem hq
    exact am_prs_of (hsub j v h1)
end AMS
