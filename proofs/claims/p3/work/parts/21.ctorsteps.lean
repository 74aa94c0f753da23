/-! ===== the constructors' machine: sound steps ===== -/
section CMS
variable {I : am_I} {d pc : Nat} {ls : List (Option Value)} {st : List Value} {κ κ0 : List cm_C}
/-- a step that touches the stack alone -/
theorem cm_pure {pc' : Nat} {st' : List Value} (h : cm_E I d pc' ls st' κ κ0) (hs : ∀ N, (∀ v ∈ st, am_sc N v) → ∀ v ∈ st', am_sc N v)
    (hw : ∀ (p : Program) (l : Launch) (e : Env) (R : Room) (s : State) (m : MethodId) (args : Array Value) (below : List Frame) (meth : Method) (c : Code) (H : Heap) (locs : List Loc) (cells slots : Nat) (Q : State → Prop) (lsA : Array Slot) (ν : Nat → Nat), p.tables.exec = Jvm.exec → c.code = am_code I → s.vm.findClass (am_y I).cls = some m.cls → (∀ w ∈ am_W, w.before args s = true) →
      W p l e R s m args below meth c H locs cells slots Q (F0 m pc' lsA (st'.map (am_tr ν))) → W p l e R s m args below meth c H locs cells slots Q (F0 m pc lsA (st.map (am_tr ν)))) : cm_E I d pc ls st κ κ0 := by
  refine ⟨h.1, fun p l e s m args below meth c g A ν0 n0 bc bs H locs ν lsA Cx Iv => ?_⟩
  have k := h.2 p l e s m args below meth c g A ν0 n0 bc bs H locs ν lsA Cx ⟨Iv.1, Iv.2.1, Iv.2.2.1, Iv.2.2.2.1, ⟨Iv.2.2.2.2.1.1, hs _ Iv.2.2.2.2.1.2⟩, Iv.2.2.2.2.2⟩
  exact hw p l e _ s m args below meth c H locs _ _ _ lsA ν Cx.1 Cx.2.1 Cx.2.2.2.2.2.1 Cx.2.2.2.2.2.2.1 k
/-- a step that goes two ways -/
theorem cm_two {P1 P2 : Prop} {pc1 pc2 : Nat} {st' : List Value} (hP : P1 ∨ P2) (h1 : P1 → cm_E I d pc1 ls st' κ κ0) (h2 : P2 → cm_E I d pc2 ls st' κ κ0) (hs : ∀ N, (∀ v ∈ st, am_sc N v) → ∀ v ∈ st', am_sc N v)
    (hw : ∀ (p : Program) (l : Launch) (e : Env) (R : Room) (s : State) (m : MethodId) (args : Array Value) (below : List Frame) (meth : Method) (c : Code) (H : Heap) (locs : List Loc) (cells slots : Nat) (Q : State → Prop) (lsA : Array Slot) (ν : Nat → Nat), p.tables.exec = Jvm.exec → c.code = am_code I →
      (P1 → W p l e R s m args below meth c H locs cells slots Q (F0 m pc1 lsA (st'.map (am_tr ν)))) → (P2 → W p l e R s m args below meth c H locs cells slots Q (F0 m pc2 lsA (st'.map (am_tr ν)))) → W p l e R s m args below meth c H locs cells slots Q (F0 m pc lsA (st.map (am_tr ν)))) : cm_E I d pc ls st κ κ0 := by
  refine ⟨hP.elim (fun z => (h1 z).1) (fun z => (h2 z).1), fun p l e s m args below meth c g A ν0 n0 bc bs H locs ν lsA Cx Iv => ?_⟩
  have Iv' : cm_Iv I g A s.heap H locs ν0 n0 ν lsA ls st' κ bc bs := ⟨Iv.1, Iv.2.1, Iv.2.2.1, Iv.2.2.2.1, ⟨Iv.2.2.2.2.1.1, hs _ Iv.2.2.2.2.1.2⟩, Iv.2.2.2.2.2⟩
  exact hw p l e _ s m args below meth c H locs _ _ _ lsA ν Cx.1 Cx.2.1 (fun z => (h1 z).2 p l e s m args below meth c g A ν0 n0 bc bs H locs ν lsA Cx Iv') (fun z => (h2 z).2 p l e s m args below meth c g A ν0 n0 bc bs H locs ν lsA Cx Iv')
/-- a step that reads a local -/
theorem cm_load {pc' i : Nat} {x : Value} (hx : ls[i]? = some (some x)) (h : cm_E I d pc' ls (x :: st) κ κ0)
    (hw : ∀ (p : Program) (l : Launch) (e : Env) (R : Room) (s : State) (m : MethodId) (args : Array Value) (below : List Frame) (meth : Method) (c : Code) (H : Heap) (locs : List Loc) (cells slots : Nat) (Q : State → Prop) (lsA : Array Slot) (ν : Nat → Nat), p.tables.exec = Jvm.exec → c.code = am_code I → lsA[i]? = some (.val (am_tr ν x)) →
      W p l e R s m args below meth c H locs cells slots Q (F0 m pc' lsA (am_tr ν x :: st.map (am_tr ν))) → W p l e R s m args below meth c H locs cells slots Q (F0 m pc lsA (st.map (am_tr ν)))) : cm_E I d pc ls st κ κ0 := by
  refine ⟨h.1, fun p l e s m args below meth c g A ν0 n0 bc bs H locs ν lsA Cx Iv => ?_⟩
  have hsx := Iv.2.2.2.2.1.1 x (List.mem_of_getElem? hx)
  have k := h.2 p l e s m args below meth c g A ν0 n0 bc bs H locs ν lsA Cx ⟨Iv.1, Iv.2.1, Iv.2.2.1, Iv.2.2.2.1, ⟨Iv.2.2.2.2.1.1, fun v hv => by
    rcases List.mem_cons.mp hv with rfl | hv
    · exact hsx
    · exact Iv.2.2.2.2.1.2 v hv⟩, Iv.2.2.2.2.2⟩
  exact hw p l e _ s m args below meth c H locs _ _ _ lsA ν Cx.1 Cx.2.1 (am_at Iv.2.2.2.2.2.1.1 hx) k
/-- a step that writes a local of one word -/
theorem cm_store1 {pc' i : Nat} {x : Value} {st' : List Value} (hi : i < ls.length) (hsx : ∀ N, (∀ v ∈ st, am_sc N v) → (∀ v, some v ∈ ls → am_sc N v) → am_sc N x) (hs : ∀ N, (∀ v ∈ st, am_sc N v) → ∀ v ∈ st', am_sc N v) (h : cm_E I d pc' (am_st1 ls i x) st' κ κ0)
    (hw : ∀ (p : Program) (l : Launch) (e : Env) (R : Room) (s : State) (m : MethodId) (args : Array Value) (below : List Frame) (meth : Method) (c : Code) (H : Heap) (locs : List Loc) (cells slots : Nat) (Q : State → Prop) (lsA : Array Slot) (ν : Nat → Nat), p.tables.exec = Jvm.exec → c.code = am_code I → lv_has lsA (am_mx I) (am_prs ν 0 ls) → i < am_mx I →
      (∀ lsB : Array Slot, lv_has lsB (am_mx I) ((i, am_tr ν x) :: (am_prs ν 0 ls).filter (fun q => !(q.1 == i) && !(q.1 + 1 == i && q.2.category == 2))) → W p l e R s m args below meth c H locs cells slots Q (F0 m pc' lsB (st'.map (am_tr ν)))) → W p l e R s m args below meth c H locs cells slots Q (F0 m pc lsA (st.map (am_tr ν)))) : cm_E I d pc ls st κ κ0 := by
  refine ⟨h.1, fun p l e s m args below meth c g A ν0 n0 bc bs H locs ν lsA Cx Iv => ?_⟩
  obtain ⟨i1, i2, i3, i4, ⟨i5, i6⟩, ⟨i7, i8⟩, i9⟩ := Iv
  refine hw p l e _ s m args below meth c H locs _ _ _ lsA ν Cx.1 Cx.2.1 i7 (by rw [← i8]; exact hi) fun lsB hB => ?_
  exact h.2 p l e s m args below meth c g A ν0 n0 bc bs H locs ν lsB Cx ⟨i1, i2, i3, i4, ⟨fun v hv => (am_st1_mem hv).elim (i5 v) (fun z => z ▸ hsx _ i6 i5), hs _ i6⟩, ⟨am_st1_has hB, by rw [am_st1_len]; exact i8⟩, i9⟩

theorem cm_iv_st {g : am_G} {A : Nat → Prop} {H0 H : Heap} {locs : List Loc} {ν0 : Nat → Nat} {n0 : Nat} {ν : Nat → Nat} {lsA : Array Slot} {bc bs : Nat} {st' : List Value} (Iv : cm_Iv I g A H0 H locs ν0 n0 ν lsA ls st κ bc bs) (hs : ∀ v ∈ st', am_sc κ.length v) : cm_Iv I g A H0 H locs ν0 n0 ν lsA ls st' κ bc bs := ⟨Iv.1, Iv.2.1, Iv.2.2.1, Iv.2.2.2.1, ⟨Iv.2.2.2.2.1.1, hs⟩, Iv.2.2.2.2.2⟩
theorem cm_iv_set {g : am_G} {A : Nat → Prop} {H0 H H1 : Heap} {locs locs1 : List Loc} {ν0 : Nat → Nat} {n0 : Nat} {ν : Nat → Nat} {lsA : Array Slot} {bc bs : Nat} {n : Nat} {e e0 : cm_C} {x : va_E} {st' : List Value} (Iv : cm_Iv I g A H0 H locs ν0 n0 ν lsA ls st κ bc bs) (he0 : κ[n]? = some e0) (hsz : cm_sz e = cm_sz e0) (hrf : cm_rf κ.length e) (hx : cm_ent g ν e = x)
    (hP : va_P g.1 vwCl ((cm_wl g ν κ).set n (ν n, x)) H1) (hD : va_D A ((cm_wl g ν κ).set n (ν n, x))) (hS : va_S A H0 H1 locs1) (hs : ∀ v ∈ st', am_sc κ.length v) : cm_Iv I g A H0 H1 locs1 ν0 n0 ν lsA ls st' (κ.set n e) bc bs := by
  have hl := (List.getElem?_eq_some_iff.mp he0).1
  rw [cm_wl_set hl hx] at hP hD
  obtain ⟨-, -, -, i4, ⟨i5, -⟩, i7, ⟨i8, i9⟩, i10, i11⟩ := Iv
  exact ⟨hP, hD, hS, cm_cl_set i4 hrf, ⟨by rw [List.length_set]; exact i5, by rw [List.length_set]; exact hs⟩, i7, ⟨by rw [List.length_set]; exact i8, by rw [cm_sl_set κ n e e0 he0 hsz]; exact i9⟩, i10, by rw [List.length_set]; exact i11⟩
theorem cm_iv_new {g : am_G} {A : Nat → Prop} {H0 H H1 : Heap} {locs locs1 : List Loc} {ν0 : Nat → Nat} {n0 : Nat} {ν : Nat → Nat} {lsA : Array Slot} {bc bs : Nat} {q : Nat} {e : cm_C} {x : va_E} {st' : List Value} (Iv : cm_Iv I g A H0 H locs ν0 n0 ν lsA ls st κ bc bs) (hb : κ.length < am_sb) (hrf : cm_rf (κ.length + 1) e) (hx : cm_ent g (va_up ν κ.length q) e = x)
    (hP : va_P g.1 vwCl (cm_wl g ν κ ++ [(q, x)]) H1) (hD : va_D A (cm_wl g ν κ ++ [(q, x)])) (hS : va_S A H0 H1 locs1) (hs : ∀ v ∈ st', am_sc κ.length v) :
    cm_Iv I g A H0 H1 locs1 ν0 n0 (va_up ν κ.length q) lsA ls (.ref κ.length :: st') (κ ++ [e]) bc bs ∧ st'.map (am_tr (va_up ν κ.length q)) = st'.map (am_tr ν) ∧ am_tr (va_up ν κ.length q) (.ref κ.length) = .ref q := by
  obtain ⟨-, -, -, i4, ⟨i5, -⟩, ⟨i6, i7⟩, ⟨i8, i9⟩, i10, i11⟩ := Iv
  rw [cm_wl_push i4 hb hx] at hP hD
  have hu : ∀ a, a < κ.length ∨ am_sb ≤ a → va_up ν κ.length q a = ν a := fun a ha => am_up_ne _ _ (by omega)
  have hlen : (κ ++ [e]).length = κ.length + 1 := by rw [List.length_append]; rfl
  have hsl : cm_sl (κ ++ [e]) = cm_sl κ + cm_sz e := by rw [cm_sl_app]; rfl
  refine ⟨⟨hP, hD, hS, cm_cl_push i4 hb hrf, ⟨fun v hv => am_sc_mono (by omega) (i5 v hv), fun v hv => ?_⟩, ⟨by rw [am_prs_nu hu i5]; exact i6, i7⟩, ⟨by omega, by omega⟩, fun n hn => by rw [hu n (hn.imp (fun z => by omega) id)]; exact i10 n hn, by omega⟩, am_map_nu hu hs, by simp [am_tr, va_up]⟩
  rcases List.mem_cons.mp hv with rfl | hv
  · exact (Or.inl (by rw [hlen]; exact Nat.lt_succ_self _) : κ.length < (κ ++ [e]).length ∨ am_sb ≤ κ.length)
  · exact am_sc_mono (by omega) (hs v hv)
theorem cm_get {idx ci k tag n : Nat} {fs : List Value} {v : Value} {r : List Value} (hf : am_fok (am_y I).cls idx ci k tag) (hd : decode (am_code I) pc = .ok (.getfield idx, 3)) (he : κ[n]? = some (.inr (ci, fs))) (hv : fs[k]? = some v) (h : cm_E I d (pc + 3) ls (v :: r) κ κ0) : cm_E I d pc ls (.ref n :: r) κ κ0 := by
  refine ⟨h.1, fun p l e s m args below meth c g A ν0 n0 bc bs H locs ν lsA Cx Iv => ?_⟩
  have hw := cm_wl_get (g := g) (ν := ν) he
  have hsv : am_sc κ.length v := (Iv.2.2.2.1.2 n _ he) v (List.mem_of_getElem? hv)
  have k0 := h.2 p l e s m args below meth c g A ν0 n0 bc bs H locs ν lsA Cx (cm_iv_st Iv fun w hw => by
    rcases List.mem_cons.mp hw with rfl | hw
    · exact hsv
    · exact Iv.2.2.2.2.1.2 w (List.mem_cons_of_mem _ hw))
  obtain ⟨C, T, N, hc, hk, ⟨hin, -, -, hdecl⟩, hl, -⟩ := hf
  obtain ⟨hx, hb, -, -, -, hown, hts, -, ⟨hK, hN, -⟩, -⟩ := Cx
  have hsame : ∀ x, s.fieldFound? (T k).1 (T k).2.1 (T k).2.2.1 = some x → s.fieldFound? C (T k).2.1 (T k).2.2.1 = some x := by
    rw [hdecl k hk]
    exact fun _ h => h
  have hv2 : (fs.map (am_tr ν))[k]? = some (am_tr ν v) := by rw [List.getElem?_map, hv]; rfl
  rcases hl with hl | ⟨host, hl⟩
  · exact va_get hx hb hts hin hown hK Iv.1 n hw hc k hk (hts _ hl) hsame hv2 hd k0
  · exact va_getN hx hb hts hin hown hK Iv.1 n hw hc k hk (va_Nw.use rfl (hN _ hl)) hsame hv2 hd k0
/-- what a field can take -/
def cm_fit (t : Option FieldType) (v : Value) : Bool := match t, v with
  | some .int, .int _ => true
  | some (.array _), .ref _ => true
  | some (.object _), .ref _ => true
  | _, _ => false
theorem cm_fit_ok {t : Option FieldType} {v : Value} (ν : Nat → Nat) (h : cm_fit t v = true) : ∃ ty, t = some ty ∧ narrow ty (am_tr ν v) = am_tr ν v ∧ fits ty (am_tr ν v) = true := by
  unfold cm_fit at h
  split at h
  · exact ⟨_, rfl, rfl, rfl⟩
  · exact ⟨_, rfl, rfl, rfl⟩
  · exact ⟨_, rfl, rfl, rfl⟩
  · cases h
theorem cm_put {idx ci k tag n : Nat} {fs : List Value} {v : Value} {r : List Value} {C : String} {T : u_T} {N : Nat} (hf : am_fok (am_y I).cls idx ci k tag) (hd : decode (am_code I) pc = .ok (.putfield idx, 3)) (hc : vwCl[ci]? = some (C, T, N)) (hC : C = (am_y I).cls) (hlk : Cond.fieldLink (am_y I).cls idx C (T k).2.1 (T k).2.2.1 ∈ am_W) (hini : (am_y I).name = "<init>") (hft : cm_fit (parseFieldDescriptor (T k).2.2.1) v = true) (he : κ[n]? = some (.inr (ci, fs))) (hkl : k < fs.length) (h : cm_E I d (pc + 3) ls r (κ.set n (.inr (ci, fs.set k v))) κ0) : cm_E I d pc ls (v :: .ref n :: r) κ κ0 := by
  have hsl : cm_sl (κ.set n (.inr (ci, fs.set k v))) = cm_sl κ := cm_sl_set κ n _ _ he (by show (fs.set k v).length = fs.length; exact List.length_set ..)
  have hln : (κ.set n (.inr (ci, fs.set k v))).length = κ.length := List.length_set ..
  refine ⟨by rw [← hsl, ← hln]; exact h.1, fun p l e s m args below meth c g A ν0 n0 bc bs H locs ν lsA Cx Iv => ?_⟩
  have hw := cm_wl_get (g := g) (ν := ν) he
  obtain ⟨C', T', N', hc', hk, ⟨hin, ⟨ty, hty⟩, hnm, hdecl⟩, -⟩ := hf
  cases (hc'.symm.trans hc)
  have Cx0 := Cx
  obtain ⟨hx, hb, -, -, -, hown, hts, hname, ⟨hK, hN, -⟩, -⟩ := Cx
  have hsame : ∀ x, s.fieldFound? (T k).1 (T k).2.1 (T k).2.2.1 = some x → s.fieldFound? C (T k).2.1 (T k).2.2.1 = some x := by
    rw [hdecl k hk]
    exact fun _ h => h
  obtain ⟨t, ht, hn1, hf1⟩ := cm_fit_ok ν hft
  have hkl2 : k < (fs.map (am_tr ν)).length := by rw [List.length_map]; exact hkl
  have hsv : ∀ w ∈ r, am_sc κ.length w := fun w hw => Iv.2.2.2.2.1.2 w (List.mem_cons_of_mem _ (List.mem_cons_of_mem _ hw))
  have fin : ∀ (H1 : Heap) (locs1 : List Loc), va_P g.1 vwCl ((cm_wl g ν κ).set n (ν n, .inr (ci, (fs.map (am_tr ν)).set k (am_tr ν v)))) H1 → va_D A ((cm_wl g ν κ).set n (ν n, .inr (ci, (fs.map (am_tr ν)).set k (am_tr ν v)))) → va_S A s.heap H1 locs1 → W p l e (am_R d (κ0.length - bc) (cm_sl κ0 - bs)) s m args below meth c H1 locs1 (κ.length - bc) (cm_sl κ - bs) (MQ below (cm_Q g ν0 n0 κ0 A) args s (κ0.length - bc) (cm_sl κ0 - bs) A) (F0 m (pc + 3) lsA (r.map (am_tr ν))) := by
    intro H1 locs1 hP hD hS
    have k0 := h.2 p l e s m args below meth c g A ν0 n0 bc bs H1 locs1 ν lsA Cx0 (cm_iv_set (e := .inr (ci, fs.set k v)) Iv he (List.length_set ..) (fun w hw => by
      rcases List.mem_or_eq_of_mem_set hw with hw | hw
      · exact (Iv.2.2.2.1.2 n _ he) w hw
      · rw [hw]; exact Iv.2.2.2.2.1.2 v List.mem_cons_self) (by show (Sum.inr (ci, (fs.set k v).map (am_tr ν)) : va_E) = _; rw [List.map_set]) hP hD hS hsv)
    rw [hsl, hln] at k0
    exact k0
  cases hfin : (T k).2.2.2 with
  | true => exact va_putF hx hb hts hin ty hty hnm hown hK Iv.1 Iv.2.1 Iv.2.2.1 n hw hc k hk (hts _ hlk) hsame hfin (hname.trans hini) (by rw [hdecl k hk, hC]) ht hn1 hf1 hkl2 hd fin
  | false => exact va_put hx hb hts hin ty hty hnm hown hK Iv.1 Iv.2.1 Iv.2.2.1 n hw hc k hk (hts _ hlk) hsame hfin ht hn1 hf1 hkl2 hd fin
theorem cm_alen {n t len : Nat} {us : List (Nat × Nat)} {r : List Value} (hd : decode (am_code I) pc = .ok (.arraylength, 1)) (he : κ[n]? = some (.inl (t, len, us))) (h : cm_E I d (pc + 1) ls (.int (Int32.ofNat len) :: r) κ κ0) : cm_E I d pc ls (.ref n :: r) κ κ0 := by
  refine ⟨h.1, fun p l e s m args below meth c g A ν0 n0 bc bs H locs ν lsA Cx Iv => ?_⟩
  have hw := cm_wl_get (g := g) (ν := ν) he
  have k0 := h.2 p l e s m args below meth c g A ν0 n0 bc bs H locs ν lsA Cx (cm_iv_st Iv fun w hw => by
    rcases List.mem_cons.mp hw with rfl | hw
    · trivial
    · exact Iv.2.2.2.2.1.2 w (List.mem_cons_of_mem _ hw))
  have hent : ∃ (j : Nat) (x : vp_A) (ty : FieldType), cm_ent g ν (.inl (t, len, us)) = .inl (g.2.1 j, x) ∧ x.1 = len ∧ (am_tys g)[j]? = some (g.2.1 j, ty) := by
    unfold cm_ent
    dsimp only
    split
    · exact ⟨0, _, _, rfl, rfl, rfl⟩
    · exact ⟨1, _, _, rfl, rfl, rfl⟩
    · exact ⟨2, _, _, rfl, rfl, rfl⟩
    · exact ⟨3, _, _, rfl, rfl, rfl⟩
    · exact ⟨4, _, _, rfl, rfl, rfl⟩
  obtain ⟨j, x, ty, e1, e2, e3⟩ := hent
  rw [e1] at hw
  exact va_alen Cx.1 Cx.2.1 Cx.2.2.2.2.2.2.2.2.1.1 Iv.1 n j hw e3 (by rw [e2]) hd k0
theorem cm_aast {n t len : Nat} {us : List (Nat × Nat)} {j : Int32} {fs : List Value} {r : List Value} (hd : decode (am_code I) pc = .ok (.aastore, 1)) (he : κ[n]? = some (.inl (4, len, us))) (ht : κ[t]? = some (.inr (7, fs))) (hin : vp_in j len) (h : cm_E I d (pc + 1) ls r (κ.set n (.inl (4, len, us ++ [(j.toNatClampNeg, t)]))) κ0) : cm_E I d pc ls (.ref t :: .int j :: .ref n :: r) κ κ0 := by
  have hsl : cm_sl (κ.set n (.inl (4, len, us ++ [(j.toNatClampNeg, t)]))) = cm_sl κ := cm_sl_set κ n _ _ he rfl
  have hln : (κ.set n (.inl (4, len, us ++ [(j.toNatClampNeg, t)]))).length = κ.length := List.length_set ..
  refine ⟨by rw [← hsl, ← hln]; exact h.1, fun p l e s m args below meth c g A ν0 n0 bc bs H locs ν lsA Cx Iv => ?_⟩
  have hw := cm_wl_get (g := g) (ν := ν) he
  have hwt := cm_wl_get (g := g) (ν := ν) ht
  have htl := (List.getElem?_eq_some_iff.mp ht).1
  refine va_astq (r := (RX8, TX8, 5)) Cx.1 Cx.2.1 Cx.2.2.2.2.2.2.2.2.1.1 Iv.1 Iv.2.1 Iv.2.2.1 n 4 t 7 hw rfl hwt rfl hin hd fun H1 locs1 hP hD hS => ?_
  have k0 := h.2 p l e s m args below meth c g A ν0 n0 bc bs H1 locs1 ν lsA Cx (cm_iv_set (e := .inl (4, len, us ++ [(j.toNatClampNeg, t)])) Iv he rfl (fun q hq => by
      rcases List.mem_append.mp hq with hq | hq
      · exact (Iv.2.2.2.1.2 n _ he) q hq
      · rw [List.mem_singleton.mp hq]; exact htl) (by unfold cm_ent; dsimp only; unfold cm_us; rw [List.foldl_append]; rfl) hP hD hS fun w hw => Iv.2.2.2.2.1.2 w (List.mem_cons_of_mem _ (List.mem_cons_of_mem _ (List.mem_cons_of_mem _ hw))))
  rw [hsl, hln] at k0
  exact k0
theorem cm_newo {idx ci : Nat} {fs : List Value} {C : String} {T : u_T} {N : Nat} (ty : Nat → FieldType) (hck : am_cok C T N) (hty : ∀ k, k < N → parseFieldDescriptor (T k).2.2.1 = some (ty k)) (hc : vwCl[ci]? = some (C, T, N)) (hcl : Cond.classLink (am_y I).cls idx C ∈ am_W) (hi : Cond.instantiable C N ∈ am_W) (hn : Cond.initialized C ∈ am_W) (hd : decode (am_code I) pc = .ok (.new idx, 3)) (hfl : fs.length = N) (hfs : ∀ j, j < N → defaultValue (ty j) = vp_V fs j) (hsc : ∀ v ∈ fs, ∀ M, am_sc M v) (hid : ∀ ν, fs.map (am_tr ν) = fs) (hb : κ.length < am_sb) (h : cm_E I d (pc + 3) ls (.ref κ.length :: st) (κ ++ [.inr (ci, fs)]) κ0) : cm_E I d pc ls st κ κ0 := by
  have hlen : (κ ++ [(Sum.inr (ci, fs) : cm_C)]).length = κ.length + 1 := by rw [List.length_append]; rfl
  have hsl : cm_sl (κ ++ [(Sum.inr (ci, fs) : cm_C)]) = cm_sl κ + N := by rw [cm_sl_app]; show cm_sl κ + (fs.length + 0) = _; rw [hfl]; rfl
  have m1 := h.1
  rw [hlen, hsl] at m1
  refine ⟨⟨by omega, by omega⟩, fun p l e s m args below meth c g A ν0 n0 bc bs H locs ν lsA Cx Iv => ?_⟩
  have b1 := Iv.2.2.2.2.2.2.1
  refine va_new (ci := ci) (fs := fs) (C := C) (T := T) (N := N) Cx.1 Cx.2.1 Cx.2.2.2.2.2.2.1 hck.1 ty hty Cx.2.2.2.2.2.1 (Cx.2.2.2.2.2.2.1 _ hcl) (Cx.2.2.2.2.2.2.1 _ hi) (Cx.2.2.2.2.2.2.1 _ hn) Cx.2.2.2.2.2.2.2.2.1.1 Iv.1 Iv.2.1 Iv.2.2.1 Cx.2.2.2.2.2.2.2.2.2 hc hfs (show κ.length - bc + 1 ≤ κ0.length - bc by omega) (show cm_sl κ - bs + N ≤ cm_sl κ0 - bs by omega) hd fun q H1 hP hD hS => ?_
  obtain ⟨Iv', em, et⟩ := cm_iv_new (e := .inr (ci, fs)) (st' := st) Iv hb (fun v hv => hsc v hv _) (by show (Sum.inr (ci, fs.map (am_tr _)) : va_E) = _; rw [hid]) hP hD hS Iv.2.2.2.2.1.2
  have k0 := h.2 p l e s m args below meth c g A ν0 n0 bc bs H1 locs _ lsA Cx Iv'
  rw [List.map_cons, em, et, hlen, hsl, show κ.length + 1 - bc = κ.length - bc + 1 by omega, show cm_sl κ + N - bs = cm_sl κ - bs + N by omega] at k0
  exact k0
theorem cm_newq {idx : Nat} {n : Int32} {r : List Value} (hcl : Cond.classLink (am_y I).cls idx RX8 ∈ am_W) (hd : decode (am_code I) pc = .ok (.anewarray idx, 3)) (hn : ¬ n < 0) (hN : n.toNatClampNeg ≤ 100000) (hb : κ.length < am_sb) (h : cm_E I d (pc + 3) ls (.ref κ.length :: r) (κ ++ [.inl (4, n.toNatClampNeg, [])]) κ0) : cm_E I d pc ls (.int n :: r) κ κ0 := by
  have hlen : (κ ++ [(Sum.inl (4, n.toNatClampNeg, []) : cm_C)]).length = κ.length + 1 := by rw [List.length_append]; rfl
  have hsl : cm_sl (κ ++ [(Sum.inl (4, n.toNatClampNeg, []) : cm_C)]) = cm_sl κ + n.toNatClampNeg := by rw [cm_sl_app]; rfl
  have m1 := h.1
  rw [hlen, hsl] at m1
  refine ⟨⟨by omega, by omega⟩, fun p l e s m args below meth c g A ν0 n0 bc bs H locs ν lsA Cx Iv => ?_⟩
  have b1 := Iv.2.2.2.2.2.2.1
  refine va_newq (C := RX8) (N' := n.toNatClampNeg) Cx.1 Cx.2.1 Cx.2.2.2.2.2.1 (Cx.2.2.2.2.2.2.1 _ hcl) Cx.2.2.2.2.2.2.2.2.1.2.2 Cx.2.2.2.2.2.2.2.2.1.1 Iv.1 Iv.2.1 Iv.2.2.1 Cx.2.2.2.2.2.2.2.2.2 hn rfl (by omega) (show κ.length - bc + 1 ≤ κ0.length - bc by omega) (show cm_sl κ - bs + n.toNatClampNeg ≤ cm_sl κ0 - bs by omega) hd fun q cA H1 hK hP hD hS => ?_
  have hcA : cA = g.2.1 4 := by
    obtain ⟨-, k1⟩ := hK.2 5 (cA, .object RX8) rfl
    obtain ⟨-, k2⟩ := Cx.2.2.2.2.2.2.2.2.1.1.2 4 (g.2.1 4, .object RX8) rfl
    obtain ⟨_, _, -, -, -, f1⟩ := k1
    obtain ⟨_, _, -, -, -, f2⟩ := k2
    exact Option.some.inj (f1.symm.trans f2)
  subst hcA
  obtain ⟨Iv', em, et⟩ := cm_iv_new (e := .inl (4, n.toNatClampNeg, [])) (st' := r) Iv hb (fun q hq => by cases hq) rfl hP hD hS (fun v hv => Iv.2.2.2.2.1.2 v (List.mem_cons_of_mem _ hv))
  have k0 := h.2 p l e s m args below meth c g A ν0 n0 bc bs H1 locs _ lsA Cx Iv'
  rw [List.map_cons, em, et, hlen, hsl, show κ.length + 1 - bc = κ.length - bc + 1 by omega, show cm_sl κ + n.toNatClampNeg - bs = cm_sl κ - bs + n.toNatClampNeg by omega] at k0
  exact k0
theorem cm_newa {at' : ArrayType} {ty : FieldType} {t : Nat} {n : Int32} {r : List Value} (hat : newarray.typeOf at' = ty) (hta : (∀ g : am_G, (am_tys g)[t]? = some (g.2.1 t, ty)) ∧ componentBytes ty ≤ 8 ∧ (∀ U cA, va_RA U cA ty = (U.vm.findClass ("[" ++ ty.toString) = some cA)) ∧ ∀ (g : am_G) (ν : Nat → Nat) (N : Nat), ∃ a0 : vp_A, cm_ent g ν (.inl (t, N, [])) = .inl (g.2.1 t, a0) ∧ ∀ cA, vp_cell cA a0 = arrV cA N (fun _ => defaultValue ty)) (harr : Cond.arrayClass ty ∈ am_W) (hd : decode (am_code I) pc = .ok (.newarray at', 2)) (hn : ¬ n < 0) (hN : n.toNatClampNeg ≤ 100000) (hb : κ.length < am_sb) (h : cm_E I d (pc + 2) ls (.ref κ.length :: r) (κ ++ [.inl (t, n.toNatClampNeg, [])]) κ0) : cm_E I d pc ls (.int n :: r) κ κ0 := by
  have hlen : (κ ++ [(Sum.inl (t, n.toNatClampNeg, []) : cm_C)]).length = κ.length + 1 := by rw [List.length_append]; rfl
  have hsl : cm_sl (κ ++ [(Sum.inl (t, n.toNatClampNeg, []) : cm_C)]) = cm_sl κ + n.toNatClampNeg := by rw [cm_sl_app]; rfl
  have m1 := h.1
  rw [hlen, hsl] at m1
  obtain ⟨ht1, ht2, ht3, ht4⟩ := hta
  refine ⟨⟨by omega, by omega⟩, fun p l e s m args below meth c g A ν0 n0 bc bs H locs ν lsA Cx Iv => ?_⟩
  have b1 := Iv.2.2.2.2.2.2.1
  obtain ⟨a0, ha1, ha2⟩ := ht4 g ν n.toNatClampNeg
  refine va_newa (a0 := a0) (N' := n.toNatClampNeg) Cx.1 Cx.2.1 (by rw [hat]; exact Cx.2.2.2.2.2.2.1 _ harr) hat Cx.2.2.2.2.2.2.2.2.1.1 Iv.1 Iv.2.1 Iv.2.2.1 Cx.2.2.2.2.2.2.2.2.2 ha2 hn rfl (Nat.le_trans (Nat.mul_le_mul hN ht2) (by decide)) (show κ.length - bc + 1 ≤ κ0.length - bc by omega) (show cm_sl κ - bs + n.toNatClampNeg ≤ cm_sl κ0 - bs by omega) hd fun q cA H1 hK hP hD hS => ?_
  have hcA : cA = g.2.1 t := by
    obtain ⟨-, k1⟩ := hK.2 5 (cA, ty) rfl
    obtain ⟨-, k2⟩ := Cx.2.2.2.2.2.2.2.2.1.1.2 t (g.2.1 t, ty) (ht1 g)
    rw [ht3] at k1 k2
    exact Option.some.inj (k1.symm.trans k2)
  subst hcA
  obtain ⟨a1, hb1, hb2⟩ := ht4 g (va_up ν κ.length q) n.toNatClampNeg
  have hent : cm_ent g (va_up ν κ.length q) (.inl (t, n.toNatClampNeg, [])) = .inl (g.2.1 t, a0) := by
    rw [← ha1]
    exact cm_ent_nu (N := 0) (fun a ha => am_up_ne _ _ (by omega)) (fun q hq => by cases hq)
  obtain ⟨Iv', em, et⟩ := cm_iv_new (e := .inl (t, n.toNatClampNeg, [])) (st' := r) Iv hb (fun q hq => by cases hq) hent hP hD hS (fun v hv => Iv.2.2.2.2.1.2 v (List.mem_cons_of_mem _ hv))
  have k0 := h.2 p l e s m args below meth c g A ν0 n0 bc bs H1 locs _ lsA Cx Iv'
  rw [List.map_cons, em, et, hlen, hsl, show κ.length + 1 - bc = κ.length - bc + 1 by omega, show cm_sl κ + n.toNatClampNeg - bs = cm_sl κ - bs + n.toNatClampNeg by omega] at k0
  exact k0
theorem cm_vret (hd : decode (am_code I) pc = .ok (.return_, 1)) (hr : am_rt I = none) : cm_E I d pc ls [] κ κ := by
  refine ⟨⟨Nat.le_refl _, Nat.le_refl _⟩, fun p l e s m args below meth c g A ν0 n0 bc bs H locs ν lsA Cx Iv => ?_⟩
  obtain ⟨hx, hb, -, hret, hlk, -⟩ := Cx
  obtain ⟨i1, i2, i3, i4, -, -, -, i10, i11⟩ := Iv
  exact W.vret hx hb (hret.trans hr) (fun t ht _ => ⟨⟨ν, i10, i11, rfl, by rw [ht]; exact i1, i2, i4⟩, i3.F ht⟩) i3.2.2 hd hlk
theorem cm_oinit {idx n : Nat} {r : List Value} (hd : decode (am_code I) pc = .ok (.invokespecial idx, 3)) (hl : Cond.methodLink (am_y I).cls idx objectInit ∈ am_W) (hi : Cond.instanceMethod objectInit ∈ am_W) (hc : Cond.code objectInit ⟨#[0xb1]⟩ 1 none ∈ am_W) (hr : am_cat r ≤ 8) (h : cm_E I (d + 1) (pc + 3) ls r κ κ0) : cm_E I (d + 1) pc ls (.ref n :: r) κ κ0 := by
  refine ⟨h.1, fun p l e s m args below meth c g A ν0 n0 bc bs H locs ν lsA Cx Iv => ?_⟩
  have hcat : ((r.map (am_tr ν)).map fun v => v.category).sum ≤ 8 := by rw [am_catm]; exact hr
  refine W.objInit (a := ν n) (rest := r.map (am_tr ν)) Cx.1 Cx.2.1 Cx.2.2.2.2.2.1 (Cx.2.2.2.2.2.2.1 _ hl) (Cx.2.2.2.2.2.2.1 _ hi) (Cx.2.2.2.2.2.2.1 _ hc) rfl (by rw [Cx.2.2.1]; exact Iv.2.2.2.2.2.1.1.1) rfl hd (Nat.le_add_left 1 d) (show 2 * 0 + ((r.map (am_tr ν)).map fun v => v.category).sum + 12 ≤ 40 * (d + 1) by omega) ?_
  exact h.2 p l e s m args below meth c g A ν0 n0 bc bs H locs ν lsA Cx (cm_iv_st Iv fun v hv => Iv.2.2.2.2.1.2 v (List.mem_cons_of_mem _ hv))
theorem cm_ok_same {g : am_G} {s t : State} (hv : t.vm = s.vm) (h : cm_ok g s) : cm_ok g t := by
  obtain ⟨h1, h2, h5⟩ := h
  have hal : s.vm.Alike t.vm := by rw [hv]; exact Vm.Alike.refl _
  refine ⟨va_K.moved hal h1, fun w hw => ?_, va_AO.moved hal h5⟩
  have hn := (List.mem_filter.mp hw).2
  refine va_Nw.same ?_ hv.symm (h2 w hw)
  cases w <;> first | rfl | cases hn
theorem cm_ok_warm {g : am_G} {s U : State} (hW : s.WarmedH U.vm) (h : cm_ok g s) : cm_ok g U := by
  obtain ⟨h1, h2, h5⟩ := h
  refine ⟨va_K.moved hW.alike h1, fun w hw => ?_, va_AO.moved hW.alike h5⟩
  have hn := (List.mem_filter.mp hw).2
  have h0 := h2 w hw
  cases w <;> first | exact va_Nw.warmF hW h0 | exact va_Nw.warmM hW h0 | cases hn
theorem cm_blind {g : am_G} {ν : Nat → Nat} {as : List Value} {sz : Nat} : FrameBlind (cm_Pc g ν κ as sz) := by
  intro a U f mk h
  obtain ⟨h1, h2, h3, h4, h5, h6, h8⟩ := h
  exact ⟨h1, h2, h3, h4, h5, h6, cm_ok_same (s := U) rfl h8⟩
theorem cm_callI {idx n ci o : Nat} {J : am_I} {κ1 : List cm_C} {rest : List Value} (hJ : am_mok (am_y I).cls idx J n 2 ci) (hd : decode (am_code I) pc = .ok (.invokespecial idx, 3)) (hn : n ≤ st.length) (hst : st.drop n = .ref o :: rest) (hcat : am_cat rest ≤ 8) (hC : cm_Ctr J d (.ref o :: (st.take n).reverse) κ κ1) (h : cm_E I (d + 1) (pc + 3) ls rest κ1 κ0) : cm_E I (d + 1) pc ls st κ κ0 := by
  have m1 := h.1
  have m2 := hC.1
  refine ⟨⟨Nat.le_trans m2.1 m1.1, Nat.le_trans m2.2 m1.2⟩, fun p l e s m args below meth c g A ν0 n0 bc bs H locs ν lsA Cx Iv => ?_⟩
  obtain ⟨hown, hlen, hl, -, -, hv2, -⟩ := hJ
  obtain ⟨hi1, hi2, hi3⟩ := hv2 rfl
  have hmx := hown.2.2.2.2.2
  have hts := Cx.2.2.2.2.2.2.1
  have hmd : ∀ v ∈ st.drop n, am_sc κ.length v := fun v hv => Iv.2.2.2.2.1.2 v (List.mem_of_mem_drop hv)
  rw [hst] at hmd
  have has : ∀ v ∈ Value.ref o :: (st.take n).reverse, am_sc κ.length v := fun v hv => by
    rcases List.mem_cons.mp hv with rfl | hv
    · exact hmd _ List.mem_cons_self
    · exact Iv.2.2.2.2.1.2 v (List.mem_of_mem_take (List.mem_reverse.mp hv))
  have hrs : ∀ v ∈ rest, am_sc κ.length v := fun v hv => hmd v (List.mem_cons_of_mem _ hv)
  have hA : ∀ q, va_A (cm_wl g ν κ) H.size q → A q := by
    intro q hq
    rcases hq with ⟨k, e, hk⟩ | hq
    · exact Iv.2.1.2 k _ hk
    · exact Cx.2.2.2.2.2.2.2.2.2 q (Nat.le_trans Iv.2.2.1.1 hq)
  have hpre : ∀ U : State, U.heap = H → s.WarmedH U.vm → cm_Pc g ν κ (.ref o :: (st.take n).reverse) H.size (((Value.ref o :: (st.take n).reverse).map (am_tr ν)).toArray) U := by
    intro U hU hW
    subst hU
    exact ⟨rfl, rfl, Iv.1, Iv.2.1.weaken (fun _ _ _ _ => trivial), Iv.2.2.2.1, has, cm_ok_warm hW Cx.2.2.2.2.2.2.2.2.1⟩
  have hAl : ((st.take n).reverse.map (am_tr ν)).length = n := by simp; omega
  have b1 := Iv.2.2.2.2.2.2.1
  have hM := hC.2 l g ν H.size
  have hroom : κ.length - bc + (κ1.length - κ.length) ≤ κ0.length - bc ∧ cm_sl κ - bs + (cm_sl κ1 - cm_sl κ) ≤ cm_sl κ0 - bs := ⟨by omega, by omega⟩
  have hR : d + 1 ≤ d + 1 ∧ 8 + (am_mx J + 11) + 40 * d ≤ 40 * (d + 1) := ⟨Nat.le_refl _, by omega⟩
  have hW8 : 2 * 0 + ((rest.map (am_tr ν)).map fun v => v.category).sum ≤ 8 := by rw [am_catm]; omega
  have hstk : st.map (am_tr ν) = ((st.take n).reverse.map (am_tr ν)).reverse ++ Value.ref (ν o) :: rest.map (am_tr ν) := by
    rw [am_take hn rfl ν, hst]
    rfl
  have hw : am_ws J = Cond.code (am_y J) (am_code J) (am_mx J) none :: am_W := by rw [← hi3]; rfl
  have hrun : va_Run p l e (am_R (d + 1) (κ0.length - bc) (cm_sl κ0 - bs)) s m args below meth c H locs (κ.length - bc) (cm_sl κ - bs) (κ1.length - κ.length) (cm_sl κ1 - cm_sl κ) (F0 m pc lsA (st.map (am_tr ν))) (rest.map (am_tr ν)) (cm_Q g ν κ.length κ1 (va_A (cm_wl g ν κ) H.size) (Value.ref (ν o) :: (st.take n).reverse.map (am_tr ν)).toArray) (va_A (cm_wl g ν κ) H.size) := by
    rcases hl with hl | ⟨host, hl⟩
    · exact va_runI (b := ν o) (As := (st.take n).reverse.map (am_tr ν)) ⟨Cx.1, Cx.2.1, Cx.2.2.1, Cx.2.2.2.2.2.1, hts⟩ hM ⟨callB_of n hts (am_goodJ hown) hw rfl rfl (hts _ hown.2.2.1) (hts _ hl) ⟨hown.2.2.2.1, hown.2.2.2.2.1, hlen⟩ hR, hi2, hts _ hi1⟩ ⟨cm_blind, hpre⟩ rfl hAl Iv.2.2.2.2.2.1.1.1 hstk hW8 hd hroom
    · exact va_runIN (b := ν o) (As := (st.take n).reverse.map (am_tr ν)) ⟨Cx.1, Cx.2.1, Cx.2.2.1, Cx.2.2.2.2.2.1, hts⟩ hM ⟨va_cnB n hts (am_goodJ hown) hw rfl rfl (Cx.2.2.2.2.2.2.2.2.1.2.1 _ hl) (hts _ hown.2.2.1) ⟨hown.2.2.2.1, hown.2.2.2.2.1, hlen⟩ hR, hi2, hts _ hi1⟩ ⟨cm_blind, hpre⟩ rfl hAl Iv.2.2.2.2.2.1.1.1 hstk hW8 hd hroom
  intro T hT X
  obtain ⟨v, st₀, t, T', L, h0, X', hL, e1, e2, ⟨⟨ν', hν, hnn, hv, hP, hD, hcl⟩, hz, hk⟩, go⟩ := hrun T hT X
  rw [h0] at hz hk
  obtain ⟨i1, i2, i3, i4, ⟨i5, i6⟩, ⟨i7, i7'⟩, ⟨i8, i9⟩, i10, i11⟩ := Iv
  cases hv
  have hS' : va_S A s.heap T'.heap (locs ++ L) := ⟨Nat.le_trans i3.1 (by rw [e1]; exact hz), fun q h1 h2 => by
      rw [e1, hk q (Nat.lt_of_lt_of_le h1 i3.1) (fun z => h2 (hA q z))]
      exact i3.2.1 q h1 h2, fun q hq => by
      rcases List.mem_append.mp hq with h | h
      · exact i3.2.2 q h
      · exact hA _ (hL q h)⟩
  have key := h.2 p l e s m args below meth c g A ν0 n0 bc bs T'.heap (locs ++ L) ν' lsA Cx
    ⟨by rw [e1]; exact hP, ⟨hD.1, fun k q hq => hA _ (hD.2 k q hq)⟩, hS', hcl, ⟨fun w hw => am_sc_mono hnn (i5 w hw), fun w hw => am_sc_mono hnn (hrs w hw)⟩, ⟨by rw [am_prs_nu hν i5]; exact i7, i7'⟩, ⟨by omega, by omega⟩, fun n hn => by rw [hν n (hn.imp (fun z => Nat.lt_of_lt_of_le z i11) id)]; exact i10 n hn, Nat.le_trans i11 hnn⟩
  rw [am_map_nu hν hrs, show κ1.length - bc = κ.length - bc + (κ1.length - κ.length) by omega, show cm_sl κ1 - bs = cm_sl κ - bs + (cm_sl κ1 - cm_sl κ) by omega] at key
  obtain ⟨t2, a1, b1⟩ := key T' rfl X'
  exact ⟨t2, go t2 a1, b1⟩
theorem cm_of {as : List Value} (ho : am_own I) (hl : (am_lsA as).length ≤ am_mx I) (h : cm_E I d 0 (am_l0 as (am_mx I)) [] κ κ0) : cm_Ctr I d as κ κ0 := by
  refine ⟨h.1, fun l g ν sz => ?_⟩
  refine Met.ofW (cc := am_code I) (maxL := am_mx I) (ret := am_rt I) ho.1 rfl ?_
  intro p e s m args below meth c s₁ B hml hv
  obtain ⟨rfl, hsz, hP, hD, hcl, hsc, hok⟩ := hv
  have hts0 := atoms_spec (ws := am_ws I) B.pre
  have hts : ∀ w ∈ am_W, w.before (as.map (am_tr ν)).toArray s = true := fun w hw => hts0 w (List.mem_cons_of_mem _ hw)
  subst hsz
  have hn : (lg_sl (as.map (am_tr ν))).length ≤ am_mx I := by rw [← am_lsA_len]; exact hl
  have hl0 := lv_entry (as.map (am_tr ν)) hn
  rw [lg_entry_eq]
  generalize (lg_sl (as.map (am_tr ν)) ++ List.replicate (am_mx I - (lg_sl (as.map (am_tr ν))).length) Slot.unset).toArray = lsA at hl0 ⊢
  have key := h.2 p l e s m (as.map (am_tr ν)).toArray below meth c g (va_A (cm_wl g ν κ) s.heap.size) ν κ.length κ.length (cm_sl κ) s.heap [] ν lsA
    ⟨B.exec, B.bytes, hml, B.returns, B.notSynchronized, findClass_of_methodNamed B.named, hts, (name_of_methodNamed B.named B.method).1, hok, fun q hq => Or.inr hq⟩
    ⟨hP, hD.self, va_S.rf, hcl, ⟨fun v hv => ?_, fun v hv => by cases hv⟩, ⟨am_hsub hl0 fun q hq => am_prs_lsA (am_prs_app (fun v hv => by simp at hv) hq), ?_⟩, ⟨Nat.le_refl _, Nat.le_refl _⟩, fun _ _ => rfl, Nat.le_refl _⟩
  · rw [Nat.sub_self, Nat.sub_self] at key
    exact key
  · rcases List.mem_append.mp hv with hv | hv
    · exact hsc v (am_lsA_mem hv)
    · simp at hv
  · unfold am_l0
    rw [List.length_append, List.length_replicate]
    omega
end CMS
