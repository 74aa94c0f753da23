/-! ===== the judgements ===== -/
/-- a whole method's place in the kit's world -/
def am_W : List Cond := lw_tbl.filter goodWord
def am_isN (w : Cond) : Bool := match w with
  | .fieldLinkNest _ _ _ _ _ _ => true
  | .methodLinkNest _ _ _ _ => true
  | _ => false
def am_nest : List Cond := lw_tbl.filter am_isN
def am_ldc : List (String × Nat × String × Nat) := [("AcTerms$Reader", 68, "uvwxyzABCDEFGHIJKLMNOP", 0), ("AcTerms$Reader", 76, "abcde", 1), ("AcTerms$Reader", 78, "fgh", 2), ("AcTerms$Printer", 43, "uvwxyzABCDEFGHIJKLMNOP", 0), ("AcTerms$Printer", 45, "abcde", 1), ("AcTerms$Printer", 47, "fgh", 2)]
def am_tlen : List Nat := [22, 5, 3]
def am_tbyt : List (List Int32) := [[117, 118, 119, 120, 121, 122, 65, 66, 67, 68, 69, 70, 71, 72, 73, 74, 75, 76, 77, 78, 79, 80], [97, 98, 99, 100, 101], [102, 103, 104]]
/-- a static that may be null -/
def am_zf (q : Nat) (A : Nat → Prop) (U : State) (H : Heap) : Prop := va_Z "jdk/internal/util/Preconditions" "SIOOBE_FORMATTER" "Ljava/util/function/BiFunction;" .null A U H ∨ va_Z "jdk/internal/util/Preconditions" "SIOOBE_FORMATTER" "Ljava/util/function/BiFunction;" (.ref q) A U H
theorem am_zf_to {q : Nat} {A B : Nat → Prop} {u U : State} {H H1 : Heap} (hvm : u.vm.Alike U.vm) (hq : ∀ a : Nat, a < H.size → ¬ A a → H1[a]? = H[a]?) (hAB : ∀ q, B q → A q) (h : am_zf q A u H) : am_zf q B U H1 := h.elim (fun z => Or.inl (va_Z.narrow (va_Z.moved hvm (va_Z.kept z hq)) hAB)) (fun z => Or.inr (va_Z.narrow (va_Z.moved hvm (va_Z.kept z hq)) hAB))
/-- what holds of the tables and of what never changes, at a method's start -/
def am_ok (g : am_G) (A : Nat → Prop) (s : State) : Prop :=
  va_K g.1 vwCl (am_tys g) s ∧ (∀ w ∈ am_nest, va_Nw w s) ∧ (vk_S 3 am_tlen am_tbyt g.2.2.1 g.2.2.2 A s s.heap ∧ va_Z "java/lang/String" "COMPACT_STRINGS" "Z" (.int 1) A s s.heap ∧ (∀ k, k < 3 → g.2.2.1 (3 + k) = g.2.2.2 k) ∧ am_zf (g.2.2.1 6) A s s.heap) ∧ (∀ q ∈ am_ldc, vk_R q.1 q.2.1 q.2.2.1 (g.2.2.1 q.2.2.2) s) ∧ va_AO RX8 s
def am_Q (Λ : am_Lay) (g : am_G) (ν0 : Nat → Nat) (n0 : Nat) (r0 : Option Value) (σ0 : am_S) (A : Nat → Prop) : Array Value → State → Outcome → State → Prop := fun _ st oc t =>
  (∃ ν : Nat → Nat, (∀ n, n < n0 ∨ am_sb ≤ n → ν n = ν0 n) ∧ n0 ≤ gn σ0 ∧ oc = .returned (r0.map (am_tr ν)) ∧ (∀ v, r0 = some v → am_sc (gn σ0) v) ∧ va_P g.1 vwCl (am_wl Λ g ν σ0) t.heap ∧ va_D A (am_wl Λ g ν σ0) ∧ am_cl Λ σ0) ∧ va_F A st t
def am_Pc (Λ : am_Lay) (g : am_G) (ν : Nat → Nat) (σ : am_S) (as : List Value) (sz : Nat) : Array Value → State → Prop := fun v U =>
  v = (as.map (am_tr ν)).toArray ∧ U.heap.size = sz ∧ va_P g.1 vwCl (am_wl Λ g ν σ) U.heap ∧ va_D (fun _ => True) (am_wl Λ g ν σ) ∧ am_cl Λ σ ∧ (∀ v ∈ as, am_sc (gn σ) v) ∧ (∀ k, ν (am_sb + k) = g.2.2.1 k) ∧ am_ok g (va_A (am_wl Λ g ν σ) sz) U
def am_R (d c s : Nat) : Room := { frames := d, cells := c, slots := s, locals := 40 * d }
def am_ws (I : am_I) : List Cond := .code (am_y I) (am_code I) (am_mx I) (am_rt I) :: am_W
/-- the contract of a method: from σ, with these arguments, it answers r0 and leaves σ0 -/
def am_Ctr (Λ : am_Lay) (I : am_I) (d : Nat) (as : List Value) (σ : am_S) (r0 : Option Value) (σ0 : am_S) : Prop :=
  (gc σ0 ≤ gc σ ∧ gs σ0 ≤ gs σ) ∧ ∀ (l : Launch) (g : am_G) (ν : Nat → Nat) (sz : Nat),
    Met l (am_y I) (am_ws I) (am_R d (gc σ - gc σ0) (gs σ - gs σ0)) (am_Pc Λ g ν σ as sz) (am_Q Λ g ν (gn σ) r0 σ0 (va_A (am_wl Λ g ν σ) sz)) (gc σ - gc σ0) (gs σ - gs σ0) (va_A (am_wl Λ g ν σ) sz)
/-- what is fixed while a method runs -/
def am_Cx (I : am_I) (p : Program) (s : State) (m : MethodId) (args : Array Value) (meth : Method) (c : Code) (g : am_G) (A : Nat → Prop) : Prop :=
  p.tables.exec = Jvm.exec ∧ c.code = am_code I ∧ c.maxLocals = am_mx I ∧ meth.sig.returnType = am_rt I ∧ meth.locks = false ∧ s.vm.findClass (am_y I).cls = some m.cls ∧ (∀ w ∈ am_W, w.before args s = true) ∧ meth.name = (am_y I).name ∧ am_ok g A s ∧ ∀ q, s.heap.size ≤ q → A q
/-- what holds of the heap and of the frame -/
def am_Iv (Λ : am_Lay) (I : am_I) (g : am_G) (A : Nat → Prop) (H0 H : Heap) (locs : List Loc) (ν0 : Nat → Nat) (n0 : Nat) (ν : Nat → Nat) (lsA : Array Slot) (ls : List (Option Value)) (st : List Value) (σ : am_S) (bc bs : Nat) : Prop :=
  va_P g.1 vwCl (am_wl Λ g ν σ) H ∧ va_D A (am_wl Λ g ν σ) ∧ va_S A H0 H locs ∧ am_cl Λ σ ∧ ((∀ v, some v ∈ ls → am_sc (gn σ) v) ∧ ∀ v ∈ st, am_sc (gn σ) v) ∧ (lv_has lsA (am_mx I) (am_prs ν 0 ls) ∧ ls.length = am_mx I) ∧ (gc σ ≤ bc ∧ gs σ ≤ bs) ∧ (∀ n, n < n0 ∨ am_sb ≤ n → ν n = ν0 n) ∧ n0 ≤ gn σ ∧ ∀ k, ν (am_sb + k) = g.2.2.1 k
/-- from this frame, in σ, the method comes to its end with r0, in σ0 -/
def am_E (Λ : am_Lay) (I : am_I) (d pc : Nat) (ls : List (Option Value)) (st : List Value) (σ : am_S) (r0 : Option Value) (σ0 : am_S) : Prop :=
  (gc σ0 ≤ gc σ ∧ gs σ0 ≤ gs σ) ∧ ∀ (p : Program) (l : Launch) (e : Env) (s : State) (m : MethodId) (args : Array Value) (below : List Frame) (meth : Method) (c : Code) (g : am_G) (A : Nat → Prop) (ν0 : Nat → Nat) (n0 bc bs : Nat) (H : Heap) (locs : List Loc) (ν : Nat → Nat) (lsA : Array Slot),
    am_Cx I p s m args meth c g A → am_Iv Λ I g A s.heap H locs ν0 n0 ν lsA ls st σ bc bs →
    W p l e (am_R d (bc - gc σ0) (bs - gs σ0)) s m args below meth c H locs (bc - gc σ) (bs - gs σ) (MQ below (am_Q Λ g ν0 n0 r0 σ0 A) args s (bc - gc σ0) (bs - gs σ0) A) (F0 m pc lsA (st.map (am_tr ν)))
/-! ===== lists of locals ===== -/
theorem am_prs_mem {ν : Nat → Nat} : ∀ {ls : List (Option Value)} {k : Nat} {q : Nat × Value}, q ∈ am_prs ν k ls → ∃ j v, ls[j]? = some (some v) ∧ q = (k + j, am_tr ν v)
  | [], k, q, h => by cases h
  | none :: r, k, q, h => by
    obtain ⟨j, v, h1, h2⟩ := am_prs_mem (ls := r) (k := k + 1) h
    exact ⟨j + 1, v, h1, by rw [h2, show k + 1 + j = k + (j + 1) by omega]⟩
  | some w :: r, k, q, h => by
    rcases List.mem_cons.mp h with h | h
    · exact ⟨0, w, rfl, by rw [h]; rfl⟩
    · obtain ⟨j, v, h1, h2⟩ := am_prs_mem (ls := r) (k := k + 1) h
      exact ⟨j + 1, v, h1, by rw [h2, show k + 1 + j = k + (j + 1) by omega]⟩
theorem am_prs_of {ν : Nat → Nat} : ∀ {ls : List (Option Value)} {k j : Nat} {v : Value}, ls[j]? = some (some v) → (k + j, am_tr ν v) ∈ am_prs ν k ls
  | [], k, j, v, h => by simp at h
  | none :: r, k, 0, v, h => by simp at h
  | none :: r, k, j + 1, v, h => by
    have h1 := am_prs_of (ν := ν) (ls := r) (k := k + 1) (j := j) (v := v) (by simpa using h)
    rw [show k + 1 + j = k + (j + 1) by omega] at h1
    exact h1
  | some w :: r, k, 0, v, h => by
    have e : w = v := by simpa using h
    subst e
    exact List.mem_cons_self
  | some w :: r, k, j + 1, v, h => by
    have h1 := am_prs_of (ν := ν) (ls := r) (k := k + 1) (j := j) (v := v) (by simpa using h)
    rw [show k + 1 + j = k + (j + 1) by omega] at h1
    exact List.mem_cons_of_mem _ h1
theorem am_at {ν : Nat → Nat} {lsA : Array Slot} {nL : Nat} {ls : List (Option Value)} (h : lv_has lsA nL (am_prs ν 0 ls)) {i : Nat} {v : Value} (hi : ls[i]? = some (some v)) : lsA[i]? = some (.val (am_tr ν v)) := by
  have h1 := h.2.2 _ (am_prs_of (k := 0) hi)
  simpa using h1
theorem am_hsub {lsA : Array Slot} {nL : Nat} {l l' : List (Nat × Value)} (h : lv_has lsA nL l) (hs : ∀ q ∈ l', q ∈ l) : lv_has lsA nL l' := ⟨h.1, h.2.1, fun q hq => h.2.2 q (hs q hq)⟩
theorem am_trc (ν : Nat → Nat) (v : Value) : (am_tr ν v).category = v.category := by cases v <;> rfl
theorem am_clr_get {ls : List (Option Value)} {i j : Nat} {v : Value} (h : (am_clr ls i)[j]? = some (some v)) : ls[j]? = some (some v) ∧ ¬ (j + 1 = i ∧ v.category = 2) := by
  unfold am_clr at h
  split at h
  · exact ⟨h, by omega⟩
  · rename_i k
    split at h
    · rename_i w hw
      cases hb : (w.category == 2) with
      | true =>
        rw [hb, cond_true] at h
        by_cases hjk : k = j
        · subst hjk
          simp [List.getElem?_set] at h
        · rw [List.getElem?_set_ne hjk] at h
          exact ⟨h, fun z => hjk (by omega)⟩
      | false =>
        rw [hb, cond_false] at h
        refine ⟨h, fun z => ?_⟩
        have e : j = k := by omega
        subst e
        rw [hw] at h
        cases h
        simp [z.2] at hb
    · rename_i hw
      refine ⟨h, fun z => ?_⟩
      have e : j = k := by omega
      subst e
      exact hw _ h
theorem am_clr_len (ls : List (Option Value)) (i : Nat) : (am_clr ls i).length = ls.length := by
  unfold am_clr
  split
  · rfl
  · split
    · rename_i w _
      cases (w.category == 2) <;> simp
    · rfl
theorem am_st1_len (ls : List (Option Value)) (i : Nat) (v : Value) : (am_st1 ls i v).length = ls.length := by simp [am_st1, am_clr_len]
theorem am_st2_len (ls : List (Option Value)) (i : Nat) (v : Value) : (am_st2 ls i v).length = ls.length := by simp [am_st2, am_clr_len]
theorem am_st1_has {ν : Nat → Nat} {lsA : Array Slot} {nL i : Nat} {ls : List (Option Value)} {v : Value} (h : lv_has lsA nL ((i, am_tr ν v) :: (am_prs ν 0 ls).filter (fun q => !(q.1 == i) && !(q.1 + 1 == i && q.2.category == 2)))) : lv_has lsA nL (am_prs ν 0 (am_st1 ls i v)) := by
  refine am_hsub h fun q hq => ?_
  obtain ⟨j, w, h1, rfl⟩ := am_prs_mem hq
  rw [Nat.zero_add]
  unfold am_st1 at h1
  by_cases hj : i = j
  · subst hj
    rw [List.getElem?_set_self' ] at h1
    cases h2 : (am_clr ls i)[i]? with
    | none => rw [h2] at h1; simp at h1
    | some z =>
      rw [h2] at h1
      simp at h1
      subst h1
      exact List.mem_cons_self
  · rw [List.getElem?_set_ne hj] at h1
    obtain ⟨h2, h3⟩ := am_clr_get h1
    refine List.mem_cons_of_mem _ (List.mem_filter.mpr ⟨by simpa using am_prs_of (ν := ν) (k := 0) h2, ?_⟩)
    simp only [am_trc, Bool.and_eq_true, Bool.not_eq_true', beq_eq_false_iff_ne, ne_eq, Bool.and_eq_false_iff]
    refine ⟨fun e => hj e.symm, ?_⟩
    by_cases hc : j + 1 = i
    · exact Or.inr (fun e => h3 ⟨hc, e⟩)
    · exact Or.inl hc
theorem am_st2_has {ν : Nat → Nat} {lsA : Array Slot} {nL i : Nat} {ls : List (Option Value)} {v : Value} (h : lv_has lsA nL ((i, am_tr ν v) :: (am_prs ν 0 ls).filter (fun q => !(q.1 == i) && (!(q.1 == i + 1) && !(q.1 + 1 == i && q.2.category == 2))))) : lv_has lsA nL (am_prs ν 0 (am_st2 ls i v)) := by
  refine am_hsub h fun q hq => ?_
  obtain ⟨j, w, h1, rfl⟩ := am_prs_mem hq
  rw [Nat.zero_add]
  unfold am_st2 at h1
  by_cases hj1 : i + 1 = j
  · subst hj1
    rw [List.getElem?_set_self'] at h1
    cases h2 : ((am_clr ls i).set i (some v))[i + 1]? with
    | none => rw [h2] at h1; simp at h1
    | some z => rw [h2] at h1; simp at h1
  · rw [List.getElem?_set_ne hj1] at h1
    by_cases hj : i = j
    · subst hj
      rw [List.getElem?_set_self'] at h1
      cases h2 : (am_clr ls i)[i]? with
      | none => rw [h2] at h1; simp at h1
      | some z =>
        rw [h2] at h1
        simp at h1
        subst h1
        exact List.mem_cons_self
    · rw [List.getElem?_set_ne hj] at h1
      obtain ⟨h2, h3⟩ := am_clr_get h1
      refine List.mem_cons_of_mem _ (List.mem_filter.mpr ⟨by simpa using am_prs_of (ν := ν) (k := 0) h2, ?_⟩)
      simp only [am_trc, Bool.and_eq_true, Bool.not_eq_true', beq_eq_false_iff_ne, ne_eq, Bool.and_eq_false_iff]
      refine ⟨fun e => hj e.symm, fun e => hj1 e.symm, ?_⟩
      by_cases hc : j + 1 = i
      · exact Or.inr (fun e => h3 ⟨hc, e⟩)
      · exact Or.inl hc
theorem am_set_mem {ls : List (Option Value)} {i : Nat} {x : Option Value} {w : Value} (h : some w ∈ ls.set i x) : some w ∈ ls ∨ x = some w := by
  rcases List.mem_or_eq_of_mem_set h with h | h
  · exact Or.inl h
  · exact Or.inr h.symm
theorem am_clr_mem {ls : List (Option Value)} {i : Nat} {w : Value} (h : some w ∈ am_clr ls i) : some w ∈ ls := by
  obtain ⟨j, hj⟩ := List.getElem?_of_mem h
  exact List.mem_of_getElem? (am_clr_get hj).1
theorem am_st1_mem {ls : List (Option Value)} {i : Nat} {v w : Value} (h : some w ∈ am_st1 ls i v) : some w ∈ ls ∨ w = v := by
  rcases am_set_mem h with h | h
  · exact Or.inl (am_clr_mem h)
  · exact Or.inr (Option.some.inj h).symm
theorem am_st2_mem {ls : List (Option Value)} {i : Nat} {v w : Value} (h : some w ∈ am_st2 ls i v) : some w ∈ ls ∨ w = v := by
  rcases am_set_mem h with h | h
  · rcases am_set_mem h with h | h
    · exact Or.inl (am_clr_mem h)
    · exact Or.inr (Option.some.inj h).symm
  · cases h

/-! ===== worlds ===== -/
theorem am_wl_get {Λ : am_Lay} {g : am_G} {ν : Nat → Nat} {σ : am_S} {n : Nat} (h : n < gn σ) : (am_wl Λ g ν σ)[n]? = some (ν n, am_ent Λ g ν σ n) := by
  simp [am_wl, h]
theorem am_wl_len {Λ : am_Lay} {g : am_G} {ν : Nat → Nat} {σ : am_S} : (am_wl Λ g ν σ).length = gn σ := by simp [am_wl]
theorem am_wl_set {Λ : am_Lay} {g : am_G} {ν : Nat → Nat} {σ τ : am_S} {n : Nat} {e : va_E} (hn : gn τ = gn σ) (he : am_ent Λ g ν τ n = e) (ho : ∀ k, k ≠ n → am_ent Λ g ν τ k = am_ent Λ g ν σ k) : (am_wl Λ g ν σ).set n (ν n, e) = am_wl Λ g ν τ := by
  apply List.ext_getElem?
  intro k
  by_cases hk : k < gn σ
  · rw [am_wl_get (by rw [hn]; exact hk)]
    by_cases hkn : n = k
    · subst hkn
      rw [List.getElem?_set_self (by rw [am_wl_len]; exact hk), he]
    · rw [List.getElem?_set_ne hkn, am_wl_get hk, ho k (fun z => hkn z.symm)]
  · rw [List.getElem?_eq_none (by rw [List.length_set, am_wl_len]; omega), List.getElem?_eq_none (by rw [am_wl_len, hn]; omega)]
theorem am_fv_nu {ν ν' : Nat → Nat} {S : Nat → Int32} : ∀ (l : List (Option Nat)) (k : Nat), (∀ a, some a ∈ l → ν' a = ν a) → am_fv ν' S k l = am_fv ν S k l
  | [], _, _ => rfl
  | none :: r, k, h => by
    show Value.int (S k) :: am_fv ν' S (k + 1) r = Value.int (S k) :: am_fv ν S (k + 1) r
    rw [am_fv_nu r (k + 1) fun a ha => h a (List.mem_cons_of_mem _ ha)]
  | some b :: r, k, h => by
    show Value.ref (ν' b) :: am_fv ν' S (k + 1) r = Value.ref (ν b) :: am_fv ν S (k + 1) r
    rw [am_fv_nu r (k + 1) fun a ha => h a (List.mem_cons_of_mem _ ha), h b List.mem_cons_self]
theorem am_omap {ν ν' : Nat → Nat} {o : Option Nat} (h : ∀ a, o = some a → ν' a = ν a) : o.map ν' = o.map ν := by
  cases o with
  | none => rfl
  | some a => exact congrArg some (h a rfl)
theorem am_ar_nu {g : am_G} {ν ν' : Nat → Nat} {σ : am_S} {n ty len : Nat} (h : ∀ i t, gP σ n i = some t → ν' t = ν t) : am_ar g ν' σ n ty len = am_ar g ν σ n ty len := by
  have e : (fun i => (gP σ n i).map ν') = (fun i => (gP σ n i).map ν) := funext fun i => am_omap (h i)
  unfold am_ar
  rw [e]
theorem am_ent_nu {Λ : am_Lay} {g : am_G} {ν ν' : Nat → Nat} {σ : am_S} (hc : am_cl Λ σ) (h : ∀ a, a < gn σ → ν' a = ν a) (n : Nat) : am_ent Λ g ν' σ n = am_ent Λ g ν σ n := by
  obtain ⟨hl, hf, -, hP, hQ⟩ := hc
  unfold am_ent
  by_cases hn : n < Λ.1
  · rw [if_pos hn, if_pos hn]
    have h1 := hl.2 n hn
    cases hx : Λ.2 n with
    | inl o =>
      rw [hx] at h1
      exact congrArg (fun z => (Sum.inr (o.1, z) : va_E)) (am_fv_nu o.2 0 fun a ha => h a (Nat.lt_of_lt_of_le (h1 a ha) hf))
    | inr a => exact am_ar_nu fun i t ht => h t (hP n i t ht)
  · rw [if_neg hn, if_neg hn]
    by_cases hk : gk σ n = true
    · rw [if_pos hk, if_pos hk, am_omap (ν' := ν') (ν := ν) fun a ha => h a (hQ n a ha)]
    · rw [if_neg hk, if_neg hk]
      exact am_ar_nu fun i t ht => h t (hP n i t ht)
theorem am_wl_nu {Λ : am_Lay} {g : am_G} {ν ν' : Nat → Nat} {σ : am_S} (hc : am_cl Λ σ) (h : ∀ a, a < gn σ → ν' a = ν a) : am_wl Λ g ν' σ = am_wl Λ g ν σ := by
  unfold am_wl
  apply List.map_congr_left
  intro n hn
  rw [h n (List.mem_range.mp hn), am_ent_nu hc h]
theorem am_wl_push {Λ : am_Lay} {g : am_G} {ν : Nat → Nat} {σ τ : am_S} {q : Nat} {e : va_E} (hc : am_cl Λ σ) (hn : gn τ = gn σ + 1) (he : am_ent Λ g (va_up ν (gn σ) q) τ (gn σ) = e) (ho : ∀ k, k < gn σ → am_ent Λ g (va_up ν (gn σ) q) τ k = am_ent Λ g (va_up ν (gn σ) q) σ k) : am_wl Λ g ν σ ++ [(q, e)] = am_wl Λ g (va_up ν (gn σ) q) τ := by
  have hu : ∀ a, a < gn σ → va_up ν (gn σ) q a = ν a := fun a ha => by simp [va_up, Nat.ne_of_lt ha]
  rw [← am_wl_nu hc hu]
  unfold am_wl
  rw [hn, List.range_succ, List.map_append]
  congr 1
  · apply List.map_congr_left
    intro k hk
    rw [ho k (List.mem_range.mp hk)]
  · simp [he, va_up]
theorem am_tr_nu {N : Nat} {ν ν' : Nat → Nat} (h : ∀ a, a < N ∨ am_sb ≤ a → ν' a = ν a) {v : Value} (hv : am_sc N v) : am_tr ν' v = am_tr ν v := by
  cases v with
  | ref a => exact congrArg Value.ref (h a hv)
  | _ => rfl
theorem am_map_nu {N : Nat} {ν ν' : Nat → Nat} (h : ∀ a, a < N ∨ am_sb ≤ a → ν' a = ν a) {st : List Value} (hv : ∀ v ∈ st, am_sc N v) : st.map (am_tr ν') = st.map (am_tr ν) := List.map_congr_left fun v hm => am_tr_nu h (hv v hm)
theorem am_prs_nu {N : Nat} {ν ν' : Nat → Nat} (h : ∀ a, a < N ∨ am_sb ≤ a → ν' a = ν a) : ∀ {ls : List (Option Value)} {k : Nat}, (∀ v, some v ∈ ls → am_sc N v) → am_prs ν' k ls = am_prs ν k ls
  | [], _, _ => rfl
  | none :: r, k, hv => am_prs_nu h (ls := r) (k := k + 1) fun v hm => hv v (List.mem_cons_of_mem _ hm)
  | some w :: r, k, hv => by
    show (k, am_tr ν' w) :: am_prs ν' (k + 1) r = (k, am_tr ν w) :: am_prs ν (k + 1) r
    rw [am_prs_nu h (ls := r) (k := k + 1) fun v hm => hv v (List.mem_cons_of_mem _ hm), am_tr_nu h (hv w List.mem_cons_self)]
theorem am_sc_mono {N M : Nat} (h : N ≤ M) {v : Value} (hv : am_sc N v) : am_sc M v := by
  cases v with
  | ref a => exact hv.imp (fun z => Nat.lt_of_lt_of_le z h) id
  | _ => trivial
