/-! ===== CONSTRUCTORS: a machine of closed computations (all numbers are known): cells as data ===== -/
/-- a cell: an array (kind, length, what was stored, in order), or an object (class, fields) -/
abbrev cm_C : Type := (Nat × Nat × List (Nat × Nat)) ⊕ (Nat × List Value)
def cm_us (ν : Nat → Nat) (us : List (Nat × Nat)) : Nat → Option Nat := us.foldl (fun f q => va_up f q.1 (some (ν q.2))) (fun _ => none)
def cm_ent (g : am_G) (ν : Nat → Nat) (e : cm_C) : va_E := match e with
  | .inl (t, len, us) => (match t with
    | 0 => .inl (g.2.1 0, len, .inl (fun _ => 0))
    | 1 => .inl (g.2.1 1, len, .inr (.inl (fun _ => 0)))
    | 2 => .inl (g.2.1 2, len, .inl (fun _ => 0))
    | 3 => .inl (g.2.1 3, len, .inl (fun _ => 0))
    | _ => .inl (g.2.1 4, len, .inr (.inr (.inr (.inr (cm_us ν us))))))
  | .inr (ci, fs) => .inr (ci, fs.map (am_tr ν))
def cm_at (κ : List cm_C) (n : Nat) : cm_C := κ.getD n (.inr (0, []))
def cm_wl (g : am_G) (ν : Nat → Nat) (κ : List cm_C) : va_W := (List.range κ.length).map (fun n => (ν n, cm_ent g ν (cm_at κ n)))
def cm_sz (e : cm_C) : Nat := match e with
  | .inl a => a.2.1
  | .inr o => o.2.length
def cm_sl : List cm_C → Nat
  | [] => 0
  | e :: r => cm_sz e + cm_sl r
theorem cm_sl_app : ∀ (a b : List cm_C), cm_sl (a ++ b) = cm_sl a + cm_sl b
  | [], b => (Nat.zero_add _).symm
  | e :: r, b => by
    show cm_sz e + cm_sl (r ++ b) = cm_sz e + cm_sl r + cm_sl b
    rw [cm_sl_app r b]
    omega
theorem cm_sl_set : ∀ (κ : List cm_C) (n : Nat) (e e0 : cm_C), κ[n]? = some e0 → cm_sz e = cm_sz e0 → cm_sl (κ.set n e) = cm_sl κ
  | [], n, e, e0, h, _ => by simp at h
  | x :: r, 0, e, e0, h, h1 => by
    have e1 : x = e0 := by simpa using h
    subst e1
    show cm_sz e + cm_sl r = cm_sz x + cm_sl r
    rw [h1]
  | x :: r, n + 1, e, e0, h, h1 => by
    show cm_sz x + cm_sl (r.set n e) = cm_sz x + cm_sl r
    rw [cm_sl_set r n e e0 (by simpa using h) h1]
/-- references go to names below N -/
def cm_rf (N : Nat) (e : cm_C) : Prop := match e with
  | .inl a => ∀ q ∈ a.2.2, q.2 < N
  | .inr o => ∀ v ∈ o.2, am_sc N v
def cm_cl (κ : List cm_C) : Prop := κ.length ≤ am_sb ∧ ∀ (n : Nat) (e : cm_C), κ[n]? = some e → cm_rf κ.length e
def cm_ok (g : am_G) (s : State) : Prop := va_K g.1 vwCl (am_tys g) s ∧ (∀ w ∈ am_nest, va_Nw w s) ∧ va_AO RX8 s
def cm_Q (g : am_G) (ν0 : Nat → Nat) (n0 : Nat) (κ0 : List cm_C) (A : Nat → Prop) : Array Value → State → Outcome → State → Prop := fun _ st oc t =>
  (∃ ν : Nat → Nat, (∀ n, n < n0 ∨ am_sb ≤ n → ν n = ν0 n) ∧ n0 ≤ κ0.length ∧ oc = .returned none ∧ va_P g.1 vwCl (cm_wl g ν κ0) t.heap ∧ va_D A (cm_wl g ν κ0) ∧ cm_cl κ0) ∧ va_F A st t
def cm_Pc (g : am_G) (ν : Nat → Nat) (κ : List cm_C) (as : List Value) (sz : Nat) : Array Value → State → Prop := fun v U =>
  v = (as.map (am_tr ν)).toArray ∧ U.heap.size = sz ∧ va_P g.1 vwCl (cm_wl g ν κ) U.heap ∧ va_D (fun _ => True) (cm_wl g ν κ) ∧ cm_cl κ ∧ (∀ v ∈ as, am_sc κ.length v) ∧ cm_ok g U
def cm_Ctr (I : am_I) (d : Nat) (as : List Value) (κ κ0 : List cm_C) : Prop :=
  (κ.length ≤ κ0.length ∧ cm_sl κ ≤ cm_sl κ0) ∧ ∀ (l : Launch) (g : am_G) (ν : Nat → Nat) (sz : Nat),
    Met l (am_y I) (am_ws I) (am_R d (κ0.length - κ.length) (cm_sl κ0 - cm_sl κ)) (cm_Pc g ν κ as sz) (cm_Q g ν κ.length κ0 (va_A (cm_wl g ν κ) sz)) (κ0.length - κ.length) (cm_sl κ0 - cm_sl κ) (va_A (cm_wl g ν κ) sz)
def cm_Cx (I : am_I) (p : Program) (s : State) (m : MethodId) (args : Array Value) (meth : Method) (c : Code) (g : am_G) (A : Nat → Prop) : Prop :=
  p.tables.exec = Jvm.exec ∧ c.code = am_code I ∧ c.maxLocals = am_mx I ∧ meth.sig.returnType = am_rt I ∧ meth.locks = false ∧ s.vm.findClass (am_y I).cls = some m.cls ∧ (∀ w ∈ am_W, w.before args s = true) ∧ meth.name = (am_y I).name ∧ cm_ok g s ∧ ∀ q, s.heap.size ≤ q → A q
def cm_Iv (I : am_I) (g : am_G) (A : Nat → Prop) (H0 H : Heap) (locs : List Loc) (ν0 : Nat → Nat) (n0 : Nat) (ν : Nat → Nat) (lsA : Array Slot) (ls : List (Option Value)) (st : List Value) (κ : List cm_C) (bc bs : Nat) : Prop :=
  va_P g.1 vwCl (cm_wl g ν κ) H ∧ va_D A (cm_wl g ν κ) ∧ va_S A H0 H locs ∧ cm_cl κ ∧ ((∀ v, some v ∈ ls → am_sc κ.length v) ∧ ∀ v ∈ st, am_sc κ.length v) ∧ (lv_has lsA (am_mx I) (am_prs ν 0 ls) ∧ ls.length = am_mx I) ∧ (bc ≤ κ.length ∧ bs ≤ cm_sl κ) ∧ (∀ n, n < n0 ∨ am_sb ≤ n → ν n = ν0 n) ∧ n0 ≤ κ.length
def cm_E (I : am_I) (d pc : Nat) (ls : List (Option Value)) (st : List Value) (κ κ0 : List cm_C) : Prop :=
  (κ.length ≤ κ0.length ∧ cm_sl κ ≤ cm_sl κ0) ∧ ∀ (p : Program) (l : Launch) (e : Env) (s : State) (m : MethodId) (args : Array Value) (below : List Frame) (meth : Method) (c : Code) (g : am_G) (A : Nat → Prop) (ν0 : Nat → Nat) (n0 bc bs : Nat) (H : Heap) (locs : List Loc) (ν : Nat → Nat) (lsA : Array Slot),
    cm_Cx I p s m args meth c g A → cm_Iv I g A s.heap H locs ν0 n0 ν lsA ls st κ bc bs →
    W p l e (am_R d (κ0.length - bc) (cm_sl κ0 - bs)) s m args below meth c H locs (κ.length - bc) (cm_sl κ - bs) (MQ below (cm_Q g ν0 n0 κ0 A) args s (κ0.length - bc) (cm_sl κ0 - bs) A) (F0 m pc lsA (st.map (am_tr ν)))
/-! worlds -/
theorem cm_wl_get {g : am_G} {ν : Nat → Nat} {κ : List cm_C} {n : Nat} {e : cm_C} (h : κ[n]? = some e) : (cm_wl g ν κ)[n]? = some (ν n, cm_ent g ν e) := by
  have hl : n < κ.length := (List.getElem?_eq_some_iff.mp h).1
  have e1 : cm_at κ n = e := by
    unfold cm_at
    rw [List.getD_eq_getElem?_getD, h]
    rfl
  simp [cm_wl, hl, e1]
theorem cm_wl_len {g : am_G} {ν : Nat → Nat} {κ : List cm_C} : (cm_wl g ν κ).length = κ.length := by simp [cm_wl]
theorem cm_wl_set {g : am_G} {ν : Nat → Nat} {κ : List cm_C} {n : Nat} {e : cm_C} {x : va_E} (hn : n < κ.length) (hx : cm_ent g ν e = x) : (cm_wl g ν κ).set n (ν n, x) = cm_wl g ν (κ.set n e) := by
  apply List.ext_getElem?
  intro k
  by_cases hk : k < κ.length
  · by_cases hkn : n = k
    · subst hkn
      rw [List.getElem?_set_self (by rw [cm_wl_len]; exact hk), cm_wl_get (e := e) (List.getElem?_set_self hk), hx]
    · obtain ⟨y, hy⟩ : ∃ y, κ[k]? = some y := ⟨κ[k], List.getElem?_eq_getElem hk⟩
      rw [List.getElem?_set_ne hkn, cm_wl_get hy, cm_wl_get (e := y) (by rw [List.getElem?_set_ne hkn]; exact hy)]
  · rw [List.getElem?_eq_none (by rw [List.length_set, cm_wl_len]; omega), List.getElem?_eq_none (by rw [cm_wl_len, List.length_set]; omega)]
theorem cm_us_nu {N : Nat} {ν ν' : Nat → Nat} (h : ∀ a, a < N ∨ am_sb ≤ a → ν' a = ν a) : ∀ (us : List (Nat × Nat)) (f : Nat → Option Nat), (∀ q ∈ us, q.2 < N) → us.foldl (fun f q => va_up f q.1 (some (ν' q.2))) f = us.foldl (fun f q => va_up f q.1 (some (ν q.2))) f
  | [], _, _ => rfl
  | a :: r, f, hu => by
    rw [List.foldl_cons, List.foldl_cons, h a.2 (Or.inl (hu a List.mem_cons_self))]
    exact cm_us_nu h r _ fun q hq => hu q (List.mem_cons_of_mem _ hq)
theorem cm_ent_nu {N : Nat} {g : am_G} {ν ν' : Nat → Nat} (h : ∀ a, a < N ∨ am_sb ≤ a → ν' a = ν a) {e : cm_C} (he : cm_rf N e) : cm_ent g ν' e = cm_ent g ν e := by
  cases e with
  | inl a =>
    obtain ⟨t, len, us⟩ := a
    have hu : cm_us ν' us = cm_us ν us := cm_us_nu h us _ he
    unfold cm_ent
    dsimp only
    rw [hu]
  | inr o => exact congrArg (fun z => (Sum.inr (o.1, z) : va_E)) (am_map_nu h he)
theorem cm_wl_nu {g : am_G} {ν ν' : Nat → Nat} {κ : List cm_C} (hc : cm_cl κ) (h : ∀ a, a < κ.length ∨ am_sb ≤ a → ν' a = ν a) : cm_wl g ν' κ = cm_wl g ν κ := by
  apply List.ext_getElem?
  intro k
  by_cases hk : k < κ.length
  · obtain ⟨y, hy⟩ : ∃ y, κ[k]? = some y := ⟨κ[k], List.getElem?_eq_getElem hk⟩
    rw [cm_wl_get hy, cm_wl_get hy, h k (Or.inl hk), cm_ent_nu h (hc.2 k y hy)]
  · rw [List.getElem?_eq_none (by rw [cm_wl_len]; omega), List.getElem?_eq_none (by rw [cm_wl_len]; omega)]
theorem cm_wl_push {g : am_G} {ν : Nat → Nat} {κ : List cm_C} {q : Nat} {e : cm_C} {x : va_E} (hc : cm_cl κ) (hl : κ.length < am_sb) (hx : cm_ent g (va_up ν κ.length q) e = x) : cm_wl g ν κ ++ [(q, x)] = cm_wl g (va_up ν κ.length q) (κ ++ [e]) := by
  have hu : ∀ a, a < κ.length ∨ am_sb ≤ a → va_up ν κ.length q a = ν a := fun a ha => am_up_ne _ _ (by omega)
  rw [← cm_wl_nu hc hu]
  apply List.ext_getElem?
  intro k
  by_cases hk : k < κ.length
  · obtain ⟨y, hy⟩ : ∃ y, κ[k]? = some y := ⟨κ[k], List.getElem?_eq_getElem hk⟩
    rw [List.getElem?_append_left (by rw [cm_wl_len]; exact hk), cm_wl_get hy, cm_wl_get (e := y) (by rw [List.getElem?_append_left hk]; exact hy)]
  · rw [List.getElem?_append_right (by rw [cm_wl_len]; omega), cm_wl_len]
    by_cases hk2 : k = κ.length
    · subst hk2
      rw [cm_wl_get (e := e) (by rw [List.getElem?_append_right (Nat.le_refl _), Nat.sub_self]; rfl), Nat.sub_self, hx, am_up_self]
      rfl
    · rw [List.getElem?_eq_none (by simp only [List.length_cons, List.length_nil]; omega), List.getElem?_eq_none (by rw [cm_wl_len, List.length_append]; simp only [List.length_cons, List.length_nil]; omega)]
theorem cm_rf_mono {N M : Nat} (h : N ≤ M) {e : cm_C} (he : cm_rf N e) : cm_rf M e := by
  cases e with
  | inl a => exact fun q hq => Nat.lt_of_lt_of_le (he q hq) h
  | inr o => exact fun v hv => am_sc_mono h (he v hv)
theorem cm_cl_set {κ : List cm_C} {n : Nat} {e : cm_C} (hc : cm_cl κ) (he : cm_rf κ.length e) : cm_cl (κ.set n e) := by
  refine ⟨by rw [List.length_set]; exact hc.1, fun k x hx => ?_⟩
  rw [List.length_set]
  rcases List.mem_or_eq_of_mem_set (List.mem_of_getElem? hx) with h | h
  · obtain ⟨j, hj⟩ := List.getElem?_of_mem h
    exact hc.2 j x hj
  · rw [h]; exact he
theorem cm_cl_push {κ : List cm_C} {e : cm_C} (hc : cm_cl κ) (hl : κ.length < am_sb) (he : cm_rf (κ.length + 1) e) : cm_cl (κ ++ [e]) := by
  refine ⟨by rw [List.length_append]; exact hl, fun k x hx => ?_⟩
  rw [List.length_append]
  rcases List.mem_append.mp (List.mem_of_getElem? hx) with h | h
  · obtain ⟨j, hj⟩ := List.getElem?_of_mem h
    exact cm_rf_mono (Nat.le_succ _) (hc.2 j x hj)
  · rw [List.mem_singleton.mp h]; exact he
