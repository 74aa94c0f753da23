/-! ===== sound: fields, arrays, new cells ===== -/
theorem am_fd_spec {Λ : am_Lay} {n ci k : Nat} {x : Option Nat} (h : am_fd Λ n ci k = some x) : n < Λ.1 ∧ ∃ fds, Λ.2 n = .inl (ci, fds) ∧ fds[k]? = some x := by
  unfold am_fd at h
  cases hb : Nat.blt n Λ.1 with
  | false => rw [hb] at h; cases h
  | true =>
    rw [hb, cond_true] at h
    refine ⟨Nat.le_of_ble_eq_true hb, ?_⟩
    cases hx : Λ.2 n with
    | inr a => rw [hx] at h; cases h
    | inl o =>
      rw [hx] at h
      dsimp only at h
      cases hc : Nat.beq o.1 ci with
      | false => rw [hc] at h; cases h
      | true =>
        rw [hc, cond_true] at h
        have e : o.1 = ci := Nat.eq_of_beq_eq_true hc
        subst e
        exact ⟨o.2, rfl, h⟩
theorem am_fa_spec {Λ : am_Lay} {n : Nat} {a : Nat × Nat} (h : am_fa Λ n = some a) : n < Λ.1 ∧ Λ.2 n = .inr a := by
  unfold am_fa at h
  cases hb : Nat.blt n Λ.1 with
  | false => rw [hb] at h; cases h
  | true =>
    rw [hb, cond_true] at h
    refine ⟨Nat.le_of_ble_eq_true hb, ?_⟩
    cases hx : Λ.2 n with
    | inl a => rw [hx] at h; cases h
    | inr o =>
      rw [hx] at h
      cases h
      rfl
theorem am_fv_get {ν : Nat → Nat} {S : Nat → Int32} : ∀ {l : List (Option Nat)} {b k : Nat} {x : Option Nat}, l[k]? = some x → (am_fv ν S b l)[k]? = some (match x with
    | none => Value.int (S (b + k))
    | some a => .ref (ν a))
  | [], b, k, x, h => by simp at h
  | none :: r, b, 0, x, h => by
    have e : none = x := by simpa using h
    subst e
    rfl
  | some a :: r, b, 0, x, h => by
    have e : some a = x := by simpa using h
    subst e
    rfl
  | none :: r, b, k + 1, x, h => by
    have h1 := am_fv_get (ν := ν) (S := S) (l := r) (b := b + 1) (k := k) (x := x) (by simpa using h)
    rw [show b + 1 + k = b + (k + 1) by omega] at h1
    exact h1
  | some a :: r, b, k + 1, x, h => by
    have h1 := am_fv_get (ν := ν) (S := S) (l := r) (b := b + 1) (k := k) (x := x) (by simpa using h)
    rw [show b + 1 + k = b + (k + 1) by omega] at h1
    exact h1
theorem am_fv_len {ν : Nat → Nat} {S : Nat → Int32} : ∀ (l : List (Option Nat)) (b : Nat), (am_fv ν S b l).length = l.length
  | [], _ => rfl
  | none :: r, b => congrArg (· + 1) (am_fv_len r (b + 1))
  | some _ :: r, b => congrArg (· + 1) (am_fv_len r (b + 1))
theorem am_fv_set {ν : Nat → Nat} {S S' : Nat → Int32} {v : Int32} : ∀ {l : List (Option Nat)} {b k : Nat}, l[k]? = some none → S' (b + k) = v → (∀ j, j ≠ b + k → S' j = S j) → (am_fv ν S b l).set k (.int v) = am_fv ν S' b l
  | [], b, k, h, _, _ => by simp at h
  | none :: r, b, 0, h, h1, h2 => by
    show Value.int v :: am_fv ν S (b + 1) r = Value.int (S' b) :: am_fv ν S' (b + 1) r
    rw [show S' b = v from h1]
    congr 1
    have key : ∀ (l : List (Option Nat)) (c : Nat), b < c → am_fv ν S c l = am_fv ν S' c l := by
      intro l
      induction l with
      | nil => intro c _; rfl
      | cons x t ih =>
        intro c hc
        cases x with
        | none =>
          show Value.int (S c) :: am_fv ν S (c + 1) t = Value.int (S' c) :: am_fv ν S' (c + 1) t
          rw [ih (c + 1) (by omega), h2 c (by omega)]
        | some a =>
          show Value.ref (ν a) :: am_fv ν S (c + 1) t = Value.ref (ν a) :: am_fv ν S' (c + 1) t
          rw [ih (c + 1) (by omega)]
    exact key r (b + 1) (by omega)
  | some a :: r, b, 0, h, _, _ => by simp at h
  | none :: r, b, k + 1, h, h1, h2 => by
    show Value.int (S b) :: (am_fv ν S (b + 1) r).set k (.int v) = Value.int (S' b) :: am_fv ν S' (b + 1) r
    rw [am_fv_set (S' := S') (l := r) (b := b + 1) (k := k) (by simpa using h) (by rw [show b + 1 + k = b + (k + 1) by omega]; exact h1) (fun j hj => h2 j (by omega)), h2 b (by omega)]
  | some a :: r, b, k + 1, h, h1, h2 => by
    show Value.ref (ν a) :: (am_fv ν S (b + 1) r).set k (.int v) = Value.ref (ν a) :: am_fv ν S' (b + 1) r
    rw [am_fv_set (S' := S') (l := r) (b := b + 1) (k := k) (by simpa using h) (by rw [show b + 1 + k = b + (k + 1) by omega]; exact h1) (fun j hj => h2 j (by omega))]
theorem am_ent_obj {Λ : am_Lay} {g : am_G} {ν : Nat → Nat} {σ : am_S} {n ci : Nat} {fds : List (Option Nat)} (hn : n < Λ.1) (hx : Λ.2 n = .inl (ci, fds)) : am_ent Λ g ν σ n = .inr (ci, am_fv ν (gS σ n) 0 fds) := by
  unfold am_ent
  rw [if_pos hn, hx]
theorem am_ent_arr {Λ : am_Lay} {g : am_G} {ν : Nat → Nat} {σ : am_S} {n : Nat} {a : Nat × Nat} (hn : n < Λ.1) (hx : Λ.2 n = .inr a) : am_ent Λ g ν σ n = am_ar g ν σ n a.1 a.2 := by
  unfold am_ent
  rw [if_pos hn, hx]
theorem am_ent_T {Λ : am_Lay} {g : am_G} {ν : Nat → Nat} {σ : am_S} {n : Nat} (h : am_isT Λ σ n) : am_ent Λ g ν σ n = .inr (7, [.int (gS σ n 0), .int (gS σ n 1), va_rf ((gQ σ n).map ν), .int (gS σ n 3), .int (gS σ n 4)]) := by
  unfold am_ent
  rw [if_neg (Nat.not_lt.mpr h.1), if_pos h.2.2]
theorem am_isR_spec {Λ : am_Lay} {σ : am_S} {n : Nat} (hf : Λ.1 ≤ gn σ) (h : am_isR Λ σ n) : n < gn σ ∧ ∀ (g : am_G) (ν : Nat → Nat), am_ent Λ g ν σ n = .inl (g.2.1 4, am_rl Λ σ n, .inr (.inr (.inr (.inr (fun i => (gP σ n i).map ν))))) := by
  unfold am_isR at h
  cases hb : Nat.blt n Λ.1 with
  | true =>
    rw [hb, cond_true] at h
    have hn : n < Λ.1 := Nat.le_of_ble_eq_true hb
    cases hx : am_fa Λ n with
    | none => rw [hx] at h; cases h
    | some a =>
      rw [hx] at h
      have e : a.1 = 4 := by simpa using h
      refine ⟨Nat.lt_of_lt_of_le hn hf, fun g ν => ?_⟩
      rw [am_ent_arr hn (am_fa_spec hx).2, e]
      unfold am_rl
      rw [hb, cond_true, hx]
      rfl
  | false =>
    rw [hb, cond_false] at h
    have hn : ¬ n < Λ.1 := fun z => by rw [show Nat.blt n Λ.1 = true from Nat.ble_eq_true_of_le z] at hb; cases hb
    refine ⟨h.1, fun g ν => ?_⟩
    unfold am_ent am_rl
    rw [if_neg hn, if_neg (by rw [h.2]; decide), hb]
    rfl
theorem am_isA_spec {Λ : am_Lay} {σ : am_S} {n : Nat} (hf : Λ.1 ≤ gn σ) (h : am_isA Λ σ n) : n < gn σ ∧ ∀ (g : am_G) (ν : Nat → Nat), ∃ (t : Nat) (x : vp_A) (ty : FieldType), am_ent Λ g ν σ n = .inl (g.2.1 t, x) ∧ x.1 = am_rl Λ σ n ∧ (am_tys g)[t]? = some (g.2.1 t, ty) := by
  unfold am_isA at h
  cases hb : Nat.blt n Λ.1 with
  | true =>
    rw [hb, cond_true] at h
    have hn : n < Λ.1 := Nat.le_of_ble_eq_true hb
    cases hx : am_fa Λ n with
    | none => rw [hx] at h; cases h
    | some a =>
      refine ⟨Nat.lt_of_lt_of_le hn hf, fun g ν => ?_⟩
      rw [am_ent_arr hn (am_fa_spec hx).2]
      unfold am_rl
      rw [hb, cond_true, hx]
      unfold am_ar
      split
      · exact ⟨0, _, _, rfl, rfl, rfl⟩
      · exact ⟨1, _, _, rfl, rfl, rfl⟩
      · exact ⟨2, _, _, rfl, rfl, rfl⟩
      · exact ⟨3, _, _, rfl, rfl, rfl⟩
      · exact ⟨4, _, _, rfl, rfl, rfl⟩
  | false =>
    rw [hb, cond_false] at h
    have hn : ¬ n < Λ.1 := fun z => by rw [show Nat.blt n Λ.1 = true from Nat.ble_eq_true_of_le z] at hb; cases hb
    refine ⟨h.1, fun g ν => ?_⟩
    unfold am_ent am_rl
    rw [if_neg hn, if_neg (by rw [h.2]; decide), hb]
    exact ⟨4, _, _, rfl, rfl, rfl⟩
theorem am_ent_congr {Λ : am_Lay} {g : am_G} {ν : Nat → Nat} {σ τ : am_S} {n : Nat} (h1 : gS τ n = gS σ n) (h2 : gA τ n = gA σ n) (h3 : gJ τ n = gJ σ n) (h4 : gP τ n = gP σ n) (h5 : gQ τ n = gQ σ n) (h6 : gk τ n = gk σ n) (h7 : gl τ n = gl σ n) : am_ent Λ g ν τ n = am_ent Λ g ν σ n := by
  unfold am_ent am_ar
  rw [h1, h2, h3, h4, h5, h6, h7]
theorem am_u2_self {α : Type} (f : Nat → Nat → α) (n k : Nat) (v : α) : am_u2 f n k v n = va_up (f n) k v := by
  funext j
  simp [am_u2, va_up]
theorem am_u2_ne {α : Type} (f : Nat → Nat → α) {n m : Nat} (k : Nat) (v : α) (h : m ≠ n) : am_u2 f n k v m = f m := by
  funext j
  simp [am_u2, h]
theorem am_up_ne {α : Type} (f : Nat → α) {n m : Nat} (v : α) (h : m ≠ n) : va_up f n v m = f m := by simp [va_up, h]
theorem am_up_self {α : Type} (f : Nat → α) (n : Nat) (v : α) : va_up f n v n = v := by simp [va_up]
/-- what must hold of a class of the table -/
def am_cok (C : String) (T : u_T) (N : Nat) : Prop := (∀ w ∈ u_ws C T N, w ∈ am_W) ∧ (∃ ty : Nat → FieldType, ∀ k, k < N → parseFieldDescriptor (T k).2.2.1 = some (ty k)) ∧ (∀ a, a < N → ∀ b, b < N → a ≠ b → (T a).2.1 ≠ (T b).2.1) ∧ ∀ k, k < N → (T k).1 = C
/-- what must hold of a field's link -/
def am_fok (own : String) (idx ci k tag : Nat) : Prop := ∃ (C : String) (T : u_T) (N : Nat), vwCl[ci]? = some (C, T, N) ∧ k < N ∧ am_cok C T N ∧ (Cond.fieldLink own idx C (T k).2.1 (T k).2.2.1 ∈ am_W ∨ ∃ host, Cond.fieldLinkNest own idx C (T k).2.1 (T k).2.2.1 host ∈ am_nest) ∧
  (tag = 0 → (T k).2.2.2 = false ∧ parseFieldDescriptor (T k).2.2.1 = some .int) ∧ (tag = 1 → (T k).2.2.2 = false ∧ parseFieldDescriptor (T k).2.2.1 = some .boolean) ∧ (tag = 2 → (T k).2.2.2 = true ∧ parseFieldDescriptor (T k).2.2.1 = some .int) ∧ (tag = 3 → (T k).2.2.2 = true ∧ ∃ t, parseFieldDescriptor (T k).2.2.1 = some (.array t))
section AMH
variable {Λ : am_Lay} {I : am_I} {d pc : Nat} {ls : List (Option Value)} {st : List Value} {σ : am_S} {r0 : Option Value} {σ0 : am_S}
/-- the row for a field that is read, whichever link it has -/
theorem am_getrow {idx ci k tag : Nat} (hf : am_fok (am_y I).cls idx ci k tag) (hd : decode (am_code I) pc = .ok (.getfield idx, 3)) {p : Program} {l : Launch} {e : Env} {R : Room} {s : State} {m : MethodId} {args : Array Value} {below : List Frame} {meth : Method} {c : Code} {g : am_G} {A : Nat → Prop} {H : Heap} {locs : List Loc} {cells slots : Nat} {Q : State → Prop} {lsA : Array Slot} {rest : List Value} (Cx : am_Cx I p s m args meth c g A) {ws : va_W} (hP : va_P g.1 vwCl ws H) (q0 : Nat) {a : Nat} {fs : List Value} (he : ws[q0]? = some (a, .inr (ci, fs))) {v : Value} (hv : fs[k]? = some v)
    (kk : W p l e R s m args below meth c H locs cells slots Q (F0 m (pc + 3) lsA (v :: rest))) : W p l e R s m args below meth c H locs cells slots Q (F0 m pc lsA (.ref a :: rest)) := by
  obtain ⟨C, T, N, hc, hk, ⟨hin, -, -, hdecl⟩, hl, -⟩ := hf
  obtain ⟨hx, hb, -, -, -, hown, hts, -, ⟨hK, hN, -⟩, -⟩ := Cx
  have hsame : ∀ x, s.fieldFound? (T k).1 (T k).2.1 (T k).2.2.1 = some x → s.fieldFound? C (T k).2.1 (T k).2.2.1 = some x := by
    rw [hdecl k hk]
    exact fun _ h => h
  rcases hl with hl | ⟨host, hl⟩
  · exact va_get hx hb hts hin hown hK hP q0 he hc k hk (hts _ hl) hsame hv hd kk
  · exact va_getN hx hb hts hin hown hK hP q0 he hc k hk (va_Nw.use rfl (hN _ hl)) hsame hv hd kk
theorem am_iv_st {g : am_G} {A : Nat → Prop} {H0 H : Heap} {locs : List Loc} {ν0 : Nat → Nat} {n0 : Nat} {ν : Nat → Nat} {lsA : Array Slot} {bc bs : Nat} {st' : List Value} (Iv : am_Iv Λ I g A H0 H locs ν0 n0 ν lsA ls st σ bc bs) (hs : ∀ v ∈ st', am_sc (gn σ) v) : am_Iv Λ I g A H0 H locs ν0 n0 ν lsA ls st' σ bc bs := ⟨Iv.1, Iv.2.1, Iv.2.2.1, Iv.2.2.2.1, ⟨Iv.2.2.2.2.1.1, hs⟩, Iv.2.2.2.2.2⟩
/-- a number or a fixed reference of a fixed object -/
theorem am_getF {idx ci k tag n : Nat} {x : Option Nat} {r : List Value} (hf : am_fok (am_y I).cls idx ci k tag) (hd : decode (am_code I) pc = .ok (.getfield idx, 3)) (hfd : am_fd Λ n ci k = some x) (h : am_E Λ I d (pc + 3) ls ((match x with
    | none => Value.int (gS σ n k)
    | some a => .ref a) :: r) σ r0 σ0) : am_E Λ I d pc ls (.ref n :: r) σ r0 σ0 := by
  refine ⟨h.1, fun p l e s m args below meth c g A ν0 n0 bc bs H locs ν lsA Cx Iv => ?_⟩
  obtain ⟨hn, fds, hx, hk⟩ := am_fd_spec hfd
  have hcl := Iv.2.2.2.1
  have hnn : n < gn σ := Nat.lt_of_lt_of_le hn hcl.2.1
  have he := am_wl_get (Λ := Λ) (g := g) (ν := ν) hnn
  rw [am_ent_obj hn hx] at he
  have hv := am_fv_get (ν := ν) (S := gS σ n) (b := 0) hk
  have hr : ∀ v ∈ r, am_sc (gn σ) v := fun v hv => Iv.2.2.2.2.1.2 v (List.mem_cons_of_mem _ hv)
  refine am_getrow hf hd Cx Iv.1 n he hv ?_
  cases x with
  | none =>
    have k0 := h.2 p l e s m args below meth c g A ν0 n0 bc bs H locs ν lsA Cx (am_iv_st Iv fun v hv => by
      rcases List.mem_cons.mp hv with rfl | hv
      · trivial
      · exact hr v hv)
    rw [Nat.zero_add]
    exact k0
  | some a =>
    have ha : a < Λ.1 := by
      have h1 := hcl.1.2 n hn
      rw [hx] at h1
      exact h1 a (List.mem_of_getElem? hk)
    exact h.2 p l e s m args below meth c g A ν0 n0 bc bs H locs ν lsA Cx (am_iv_st Iv fun v hv => by
      rcases List.mem_cons.mp hv with rfl | hv
      · exact Or.inl (Nat.lt_of_lt_of_le ha hcl.2.1)
      · exact hr v hv)
/-- a number of a Term -/
theorem am_getT {idx k tag n : Nat} {r : List Value} (hf : am_fok (am_y I).cls idx 7 k tag) (hd : decode (am_code I) pc = .ok (.getfield idx, 3)) (hT : am_isT Λ σ n) (hk : k ≠ 2) (h : am_E Λ I d (pc + 3) ls (.int (gS σ n k) :: r) σ r0 σ0) : am_E Λ I d pc ls (.ref n :: r) σ r0 σ0 := by
  refine ⟨h.1, fun p l e s m args below meth c g A ν0 n0 bc bs H locs ν lsA Cx Iv => ?_⟩
  have he := am_wl_get (Λ := Λ) (g := g) (ν := ν) hT.2.1
  rw [am_ent_T hT] at he
  have hk5 : k < 5 := by
    obtain ⟨C, T, N, hc, hk, -⟩ := hf
    cases (show some (RX8, TX8, 5) = some (C, T, N) from hc)
    exact hk
  have hv : ([.int (gS σ n 0), .int (gS σ n 1), va_rf ((gQ σ n).map ν), .int (gS σ n 3), .int (gS σ n 4)] : List Value)[k]? = some (.int (gS σ n k)) := by
    rcases (show k = 0 ∨ k = 1 ∨ k = 3 ∨ k = 4 by omega) with rfl | rfl | rfl | rfl <;> rfl
  refine am_getrow hf hd Cx Iv.1 n he hv ?_
  exact h.2 p l e s m args below meth c g A ν0 n0 bc bs H locs ν lsA Cx (am_iv_st Iv fun v hv => by
    rcases List.mem_cons.mp hv with rfl | hv
    · trivial
    · exact Iv.2.2.2.2.1.2 v (List.mem_cons_of_mem _ hv))
/-- the PARTS of a Term -/
theorem am_getQ {idx tag n : Nat} {r : List Value} (hf : am_fok (am_y I).cls idx 7 2 tag) (hd : decode (am_code I) pc = .ok (.getfield idx, 3)) (hT : am_isT Λ σ n) (h1 : gQ σ n = none → am_E Λ I d (pc + 3) ls (.null :: r) σ r0 σ0) (h2 : ∀ a, gQ σ n = some a → am_E Λ I d (pc + 3) ls (.ref a :: r) σ r0 σ0) : am_E Λ I d pc ls (.ref n :: r) σ r0 σ0 := by
  refine ⟨?_, fun p l e s m args below meth c g A ν0 n0 bc bs H locs ν lsA Cx Iv => ?_⟩
  · cases hq : gQ σ n with
    | none => exact (h1 hq).1
    | some a => exact (h2 a hq).1
  have he := am_wl_get (Λ := Λ) (g := g) (ν := ν) hT.2.1
  rw [am_ent_T hT] at he
  have hr : ∀ v ∈ r, am_sc (gn σ) v := fun v hv => Iv.2.2.2.2.1.2 v (List.mem_cons_of_mem _ hv)
  refine am_getrow (v := va_rf ((gQ σ n).map ν)) hf hd Cx Iv.1 n he rfl ?_
  cases hq : gQ σ n with
  | none =>
    exact (h1 hq).2 p l e s m args below meth c g A ν0 n0 bc bs H locs ν lsA Cx (am_iv_st Iv fun v hv => by
      rcases List.mem_cons.mp hv with rfl | hv
      · trivial
      · exact hr v hv)
  | some a =>
    exact (h2 a hq).2 p l e s m args below meth c g A ν0 n0 bc bs H locs ν lsA Cx (am_iv_st Iv fun v hv => by
      rcases List.mem_cons.mp hv with rfl | hv
      · exact Or.inl (Iv.2.2.2.1.2.2.2.2 n a hq)
      · exact hr v hv)
/-- the invariant behind a write into one cell of the world -/
theorem am_iv_set {g : am_G} {A : Nat → Prop} {H0 H H1 : Heap} {locs locs1 : List Loc} {ν0 : Nat → Nat} {n0 : Nat} {ν : Nat → Nat} {lsA : Array Slot} {bc bs : Nat} {τ : am_S} {n : Nat} {e : va_E} {st' : List Value} (Iv : am_Iv Λ I g A H0 H locs ν0 n0 ν lsA ls st σ bc bs)
    (hn : gn τ = gn σ) (hc1 : gc τ = gc σ) (hc2 : gs τ = gs σ) (he : am_ent Λ g ν τ n = e) (ho : ∀ k, k ≠ n → am_ent Λ g ν τ k = am_ent Λ g ν σ k) (hcl : am_cl Λ τ)
    (hP : va_P g.1 vwCl ((am_wl Λ g ν σ).set n (ν n, e)) H1) (hD : va_D A ((am_wl Λ g ν σ).set n (ν n, e))) (hS : va_S A H0 H1 locs1) (hs : ∀ v ∈ st', am_sc (gn σ) v) : am_Iv Λ I g A H0 H1 locs1 ν0 n0 ν lsA ls st' τ bc bs := by
  rw [am_wl_set hn he ho] at hP hD
  obtain ⟨-, -, -, -, ⟨i5, -⟩, i7, ⟨i8, i9⟩, i10, i11, i12⟩ := Iv
  exact ⟨hP, hD, hS, hcl, ⟨by rw [hn]; exact i5, by rw [hn]; exact hs⟩, i7, ⟨by rw [hc1]; exact i8, by rw [hc2]; exact i9⟩, i10, by rw [hn]; exact i11, i12⟩
/-- a number of a fixed object is written -/
theorem am_putF {idx ci k tag n : Nat} {v : Int32} {r : List Value} (hf : am_fok (am_y I).cls idx ci k tag) (hd : decode (am_code I) pc = .ok (.putfield idx, 3)) (hfd : am_fd Λ n ci k = some none) (ht : tag = 0 ∨ tag = 1 ∧ (v = 0 ∨ v = 1)) (h : am_E Λ I d (pc + 3) ls r (wS σ n k v) r0 σ0) : am_E Λ I d pc ls (.int v :: .ref n :: r) σ r0 σ0 := by
  refine ⟨h.1, fun p l e s m args below meth c g A ν0 n0 bc bs H locs ν lsA Cx Iv => ?_⟩
  obtain ⟨hn, fds, hx, hk0⟩ := am_fd_spec hfd
  have hcl := Iv.2.2.2.1
  have he := am_wl_get (Λ := Λ) (g := g) (ν := ν) (Nat.lt_of_lt_of_le hn hcl.2.1)
  rw [am_ent_obj hn hx] at he
  obtain ⟨C, T, N, hc, hk, ⟨hin, ⟨ty, hty⟩, hnm, hdecl⟩, hl, t0, t1, -, -⟩ := hf
  have Cx0 := Cx
  obtain ⟨hxe, hb, -, -, -, hown, hts, -, ⟨hK, hN, -⟩, -⟩ := Cx
  have hsame : ∀ x, s.fieldFound? (T k).1 (T k).2.1 (T k).2.2.1 = some x → s.fieldFound? C (T k).2.1 (T k).2.2.1 = some x := by
    rw [hdecl k hk]
    exact fun _ h => h
  have hfin : (T k).2.2.2 = false := by
    rcases ht with ht | ⟨ht, -⟩
    · exact (t0 ht).1
    · exact (t1 ht).1
  have hfit : ∃ t, parseFieldDescriptor (T k).2.2.1 = some t ∧ narrow t (.int v) = .int v ∧ fits t (.int v) = true := by
    rcases ht with ht | ⟨ht, hv⟩
    · exact ⟨_, (t0 ht).2, rfl, rfl⟩
    · exact ⟨_, (t1 ht).2, by rcases hv with rfl | rfl <;> rfl, by rcases hv with rfl | rfl <;> rfl⟩
  obtain ⟨t, hd2, hnar, hfi⟩ := hfit
  have hlen : k < (am_fv ν (gS σ n) 0 fds).length := by
    rw [am_fv_len]
    exact (List.getElem?_eq_some_iff.mp hk0).1
  have fin : ∀ (H1 : Heap) (locs1 : List Loc), va_P g.1 vwCl ((am_wl Λ g ν σ).set n (ν n, .inr (ci, (am_fv ν (gS σ n) 0 fds).set k (.int v)))) H1 → va_D A ((am_wl Λ g ν σ).set n (ν n, .inr (ci, (am_fv ν (gS σ n) 0 fds).set k (.int v)))) → va_S A s.heap H1 locs1 → W p l e (am_R d (bc - gc σ0) (bs - gs σ0)) s m args below meth c H1 locs1 (bc - gc σ) (bs - gs σ) (MQ below (am_Q Λ g ν0 n0 r0 σ0 A) args s (bc - gc σ0) (bs - gs σ0) A) (F0 m (pc + 3) lsA (r.map (am_tr ν))) := by
    intro H1 locs1 hP hD hS
    refine h.2 p l e s m args below meth c g A ν0 n0 bc bs H1 locs1 ν lsA Cx0 (am_iv_set (n := n) (τ := wS σ n k v) Iv rfl rfl rfl ?_ (fun j hj => am_ent_congr (am_u2_ne _ _ _ hj) rfl rfl rfl rfl rfl rfl) hcl hP hD hS fun w hw => Iv.2.2.2.2.1.2 w (List.mem_cons_of_mem _ (List.mem_cons_of_mem _ hw)))
    rw [am_ent_obj hn hx, am_fv_set (S' := gS (wS σ n k v) n) hk0 (by rw [Nat.zero_add]; simp [wS, gS, am_u2]) (fun j hj => by rw [Nat.zero_add] at hj; simp [wS, gS, am_u2, hj])]
  rcases hl with hl | ⟨host, hl⟩
  · exact va_put hxe hb hts hin ty hty hnm hown hK Iv.1 Iv.2.1 Iv.2.2.1 n he hc k hk (hts _ hl) hsame hfin hd2 hnar hfi hlen hd fin
  · exact va_putN hxe hb hts hin ty hty hnm hown hK Iv.1 Iv.2.1 Iv.2.2.1 n he hc k hk (va_Nw.use rfl (hN _ hl)) hsame hfin hd2 hnar hfi hlen hd fin
/-- a number of a Term that is being made -/
theorem am_putT {idx k n : Nat} {v : Int32} {r : List Value} (hf : am_fok (am_y I).cls idx 7 k 2) (hd : decode (am_code I) pc = .ok (.putfield idx, 3)) (hini : (am_y I).name = "<init>" ∧ (am_y I).cls = RX8) (hlk : Cond.fieldLink (am_y I).cls idx RX8 (TX8 k).2.1 (TX8 k).2.2.1 ∈ am_W) (hT : am_isT Λ σ n) (h : am_E Λ I d (pc + 3) ls r (wS σ n k v) r0 σ0) : am_E Λ I d pc ls (.int v :: .ref n :: r) σ r0 σ0 := by
  refine ⟨h.1, fun p l e s m args below meth c g A ν0 n0 bc bs H locs ν lsA Cx Iv => ?_⟩
  have hcl := Iv.2.2.2.1
  have he := am_wl_get (Λ := Λ) (g := g) (ν := ν) hT.2.1
  rw [am_ent_T hT] at he
  obtain ⟨C, T, N, hc, hk, ⟨hin, ⟨ty, hty⟩, hnm, hdecl⟩, hl, -, -, t2, -⟩ := hf
  have Cx0 := Cx
  obtain ⟨hxe, hb, -, -, -, hown, hts, hname, ⟨hK, hN, -⟩, -⟩ := Cx
  have hlen : k < ([.int (gS σ n 0), .int (gS σ n 1), va_rf ((gQ σ n).map ν), .int (gS σ n 3), .int (gS σ n 4)] : List Value).length := by
    cases (show some (RX8, TX8, 5) = some (C, T, N) from hc)
    exact hk
  have hC : C = RX8 := by
    cases (show some (RX8, TX8, 5) = some (C, T, N) from hc)
    rfl
  have hk2 : k ≠ 2 := by
    rintro rfl
    have h1 := (t2 rfl).2
    cases (show some (RX8, TX8, 5) = some (C, T, N) from hc)
    exact absurd h1 (by decide +kernel)
  have hsame : ∀ x, s.fieldFound? (T k).1 (T k).2.1 (T k).2.2.1 = some x → s.fieldFound? C (T k).2.1 (T k).2.2.1 = some x := by
    rw [hdecl k hk]
    exact fun _ h => h
  have hl : Cond.fieldLink (am_y I).cls idx C (T k).2.1 (T k).2.2.1 ∈ am_W := by
    cases (show some (RX8, TX8, 5) = some (C, T, N) from hc)
    exact hlk
  · refine va_putF hxe hb hts hin ty hty hnm hown hK Iv.1 Iv.2.1 Iv.2.2.1 n he hc k hk (hts _ hl) hsame (t2 rfl).1 (hname.trans hini.1) (by rw [hdecl k hk, hC, hini.2]) (t2 rfl).2 rfl rfl hlen hd fun H1 locs1 hP hD hS => ?_
    refine h.2 p l e s m args below meth c g A ν0 n0 bc bs H1 locs1 ν lsA Cx0 (am_iv_set (n := n) (τ := wS σ n k v) Iv rfl rfl rfl ?_ (fun j hj => am_ent_congr (am_u2_ne _ _ _ hj) rfl rfl rfl rfl rfl rfl) hcl hP hD hS fun w hw => Iv.2.2.2.2.1.2 w (List.mem_cons_of_mem _ (List.mem_cons_of_mem _ hw)))
    rw [am_ent_T (σ := wS σ n k v) hT]
    have hk5 : k < 5 := hlen
    rcases (show k = 0 ∨ k = 1 ∨ k = 3 ∨ k = 4 by omega) with rfl | rfl | rfl | rfl <;> simp [wS, gS, gQ, am_u2, am_tr]
theorem am_putQ {idx n a : Nat} {r : List Value} (hf : am_fok (am_y I).cls idx 7 2 3) (hd : decode (am_code I) pc = .ok (.putfield idx, 3)) (hini : (am_y I).name = "<init>" ∧ (am_y I).cls = RX8) (hlk : Cond.fieldLink (am_y I).cls idx RX8 (TX8 2).2.1 (TX8 2).2.2.1 ∈ am_W) (hT : am_isT Λ σ n) (h : am_E Λ I d (pc + 3) ls r (wQ σ n (some a)) r0 σ0) (ha : a < am_sb) : am_E Λ I d pc ls (.ref a :: .ref n :: r) σ r0 σ0 := by
  refine ⟨h.1, fun p l e s m args below meth c g A ν0 n0 bc bs H locs ν lsA Cx Iv => ?_⟩
  have hcl := Iv.2.2.2.1
  have hag : a < gn σ := (Iv.2.2.2.2.1.2 (.ref a) List.mem_cons_self).elim id (fun z => absurd z (Nat.not_le.mpr ha))
  have he := am_wl_get (Λ := Λ) (g := g) (ν := ν) hT.2.1
  rw [am_ent_T hT] at he
  obtain ⟨C, T, N, hc, hk, ⟨hin, ⟨ty, hty⟩, hnm, hdecl⟩, hl, -, -, -, t3⟩ := hf
  have Cx0 := Cx
  obtain ⟨hxe, hb, -, -, -, hown, hts, hname, ⟨hK, hN, -⟩, -⟩ := Cx
  have hC : C = RX8 := by
    cases (show some (RX8, TX8, 5) = some (C, T, N) from hc)
    rfl
  have hsame : ∀ x, s.fieldFound? (T 2).1 (T 2).2.1 (T 2).2.2.1 = some x → s.fieldFound? C (T 2).2.1 (T 2).2.2.1 = some x := by
    rw [hdecl 2 hk]
    exact fun _ h => h
  obtain ⟨hfin, t, ht⟩ := t3 rfl
  have hl : Cond.fieldLink (am_y I).cls idx C (T 2).2.1 (T 2).2.2.1 ∈ am_W := by
    cases (show some (RX8, TX8, 5) = some (C, T, N) from hc)
    exact hlk
  · refine va_putF hxe hb hts hin ty hty hnm hown hK Iv.1 Iv.2.1 Iv.2.2.1 n he hc 2 hk (hts _ hl) hsame hfin (hname.trans hini.1) (by rw [hdecl 2 hk, hC, hini.2]) ht rfl rfl (show 2 < 5 by decide) hd fun H1 locs1 hP hD hS => ?_
    refine h.2 p l e s m args below meth c g A ν0 n0 bc bs H1 locs1 ν lsA Cx0 (am_iv_set (n := n) (τ := wQ σ n (some a)) Iv rfl rfl rfl ?_ (fun j hj => am_ent_congr rfl rfl rfl rfl (am_up_ne _ _ hj) rfl rfl) ⟨hcl.1, hcl.2.1, hcl.2.2.1, hcl.2.2.2.1, fun j b hj => ?_⟩ hP hD hS fun w hw => Iv.2.2.2.2.1.2 w (List.mem_cons_of_mem _ (List.mem_cons_of_mem _ hw)))
    · rw [am_ent_T (σ := wQ σ n (some a)) hT]
      simp [wQ, gQ, gS, va_up, va_rf, am_tr]
    · by_cases hjn : j = n
      · subst hjn
        have e : some a = some b := by simpa [wQ, gQ, va_up] using hj
        cases e
        exact hag
      · exact hcl.2.2.2.2 j b (by simpa [wQ, gQ, va_up, hjn] using hj)
end AMH
