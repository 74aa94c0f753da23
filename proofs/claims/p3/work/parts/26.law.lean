/-! ===== the law's frame: both systems' worlds side by side ===== -/
def lw_tr (b x m : Nat) (v : Value) : Value := match v with
  | .ref 0 => .ref x
  | .ref 1 => .ref m
  | .ref _ => .ref b
  | w => w
def lw_dis (w1 w2 : va_W) : Prop := ∀ (i j : Nat) (p q : Nat × va_E), w1[i]? = some p → w2[j]? = some q → p.1 ≠ q.1
def lw_Iv (s : State) (b : Nat) (g : am_G) (H : Heap) (locs : List Loc) (νx νm : Nat → Nat) (lsA : Array Slot) (i : Int32) (σx σm : am_S) (CB SB : Nat) : Prop :=
  va_P g.1 vwCl (am_wl am_Lx g νx σx) H ∧ va_P g.1 vwCl (am_wl am_Lm g νm σm) H ∧ va_D (fun q => s.heap.size ≤ q) (am_wl am_Lx g νx σx) ∧ va_D (fun q => s.heap.size ≤ q) (am_wl am_Lm g νm σm) ∧ lw_dis (am_wl am_Lx g νx σx) (am_wl am_Lm g νm σm) ∧ va_S (fun q => s.heap.size ≤ q) s.heap H locs ∧
  am_cl am_Lx σx ∧ am_cl am_Lm σm ∧ ((∀ k, νx (am_sb + k) = g.2.2.1 k) ∧ ∀ k, νm (am_sb + k) = g.2.2.1 k) ∧ lv_has lsA 4 [(0, .ref b), (1, .ref (νx 0)), (2, .ref (νm 0)), (3, .int i)] ∧ (gc σx ≤ CB ∧ gs σx ≤ SB ∧ CB ≤ 600000 ∧ SB ≤ 7302250)
/-- the law, at pc, with i and this stack (names 0: the class's object, 1: the reference's, 2: the script): it comes to its end with 1 -/
def lw_E (p : Program) (l : Launch) (e : Env) (s : State) (m : MethodId) (below : List Frame) (meth : Method) (c : Code) (b : Nat) (g : am_G) (CB SB : Nat) (pc : Nat) (i : Int32) (st : List Value) (σx σm : am_S) : Prop :=
  ∀ (H : Heap) (locs : List Loc) (νx νm : Nat → Nat) (lsA : Array Slot), lw_Iv s b g H locs νx νm lsA i σx σm CB SB → W p l e room_1 s m #[Value.ref b] below meth c H locs (CB - gc σx) (SB - gs σx) (lw_Z below #[Value.ref b] s) (F0 m pc lsA (st.map (lw_tr b (νx 0) (νm 0))))
/-- what is fixed while the law runs -/
def lw_C (p : Program) (s : State) (m : MethodId) (meth : Method) (c : Code) (b L : Nat) (xs : Nat → Int32) (g : am_G) : Prop := lw_At p s m meth c b L xs ∧ am_ok g (fun q => s.heap.size ≤ q) s
section LWS
variable {p : Program} {l : Launch} {e : Env} {s : State} {m : MethodId} {below : List Frame} {meth : Method} {c : Code} {b L : Nat} {xs : Nat → Int32} {g : am_G} {CB SB pc : Nat} {i : Int32} {st : List Value} {σx σm : am_S}
theorem lw_pure (C0 : lw_C p s m meth c b L xs g) {pc' : Nat} {st' : List Value} (h : lw_E p l e s m below meth c b g CB SB pc' i st' σx σm)
    (hw : ∀ (H : Heap) (locs : List Loc) (cells slots : Nat) (Q : State → Prop) (lsA : Array Slot) (x y : Nat), lv_has lsA 4 [(0, .ref b), (1, .ref x), (2, .ref y), (3, .int i)] → va_S (fun q => s.heap.size ≤ q) s.heap H locs →
      W p l e room_1 s m #[Value.ref b] below meth c H locs cells slots Q (F0 m pc' lsA (st'.map (lw_tr b x y))) → W p l e room_1 s m #[Value.ref b] below meth c H locs cells slots Q (F0 m pc lsA (st.map (lw_tr b x y)))) : lw_E p l e s m below meth c b g CB SB pc i st σx σm := by
  intro H locs νx νm lsA Iv
  exact hw H locs _ _ _ lsA _ _ Iv.2.2.2.2.2.2.2.2.2.1 Iv.2.2.2.2.2.1 (h H locs νx νm lsA Iv)
/-- worlds behind a call on one of two systems -/
theorem lw_keep {D : va_G} {cl : List vw_C} {A : Nat → Prop} {w1 w2 w1' : va_W} {H H1 : Heap} (h2 : va_P D cl w2 H) (hd : lw_dis w1 w2) (hk : ∀ q : Nat, q < H.size → ¬ va_A w1 H.size q → H1[q]? = H[q]?) (hD1 : va_D (va_A w1 H.size) w1') : va_P D cl w2 H1 ∧ lw_dis w1' w2 := by
  have key : ∀ (j : Nat) (q : Nat × va_E), w2[j]? = some q → q.1 < H.size ∧ ¬ va_A w1 H.size q.1 := by
    intro j q hq
    have hl := (h2 j q hq).lt
    refine ⟨hl, fun z => ?_⟩
    rcases z with ⟨k, x, hx⟩ | z
    · exact hd k j _ q hx hq rfl
    · omega
  refine ⟨h2.kept fun j q hq => hk q.1 (key j q hq).1 (key j q hq).2, fun i j x y hx hy hxy => ?_⟩
  exact (key j y hy).2 (by rw [← hxy]; exact hD1.2 i x hx)
theorem lw_dis_symm {w1 w2 : va_W} (h : lw_dis w1 w2) : lw_dis w2 w1 := fun i j p q hp hq e => h j i q p hq hp e.symm
theorem am_W_in {w : Cond} (h : w ∈ am_W) : w ∈ lw_tbl := (List.mem_filter.mp h).1
theorem lw_goodJ {J : am_I} (h : am_own J) : GoodIn lw_tbl (am_ws J) := fun w hw => ⟨am_W_in ((am_goodJ h) w hw).1, ((am_goodJ h) w hw).2⟩
/-- a call of a public method on an object of either system -/
theorem lw_run (C0 : lw_C p s m meth c b L xs g) {Λ : am_Lay} {J : am_I} {idx n ci : Nat} {as rest : List Value} {r : Option Value} {σ σ' : am_S} {ν : Nat → Nat} {H : Heap} {locs : List Loc} {lsA : Array Slot} {cells slots : Nat} {stk : List Value} (hJ : am_mok R_law idx J n 1 ci) (hd : decode code pc = .ok (.invokevirtual idx, 3)) (hnest : Cond.methodLink R_law idx (am_y J) ∈ am_W) (hC : am_Ctr Λ J 2000 (.ref 0 :: as) σ r σ') (hob : am_ob Λ 0 ci = true) (hn : as.length = n) (has : ∀ v ∈ as, ∀ ν : Nat → Nat, am_tr ν v = v) (hcat : am_cat rest ≤ 8)
    (hP : va_P g.1 vwCl (am_wl Λ g ν σ) H) (hD : va_D (fun q => s.heap.size ≤ q) (am_wl Λ g ν σ)) (hS : va_S (fun q => s.heap.size ≤ q) s.heap H locs) (hcl : am_cl Λ σ) (hstr : ∀ k, ν (am_sb + k) = g.2.2.1 k) (hls : lsA.size = 4) (hstk : stk = as.reverse ++ .ref (ν 0) :: rest) (hroom : cells + (gc σ - gc σ') ≤ 600000 ∧ slots + (gs σ - gs σ') ≤ 7302250) :
    va_Run p l e room_1 s m #[Value.ref b] below meth c H locs cells slots (gc σ - gc σ') (gs σ - gs σ') (F0 m pc lsA stk) rest (am_Q Λ g ν (gn σ) r σ' (va_A (am_wl Λ g ν σ) H.size) (Value.ref (ν 0) :: as).toArray) (va_A (am_wl Λ g ν σ) H.size) := by
  obtain ⟨⟨hx, hb, hr, hml, hown, hts, hX, hbl, hlk, hgv⟩, hok⟩ := C0
  obtain ⟨how, hlen, -, -, hv1, -⟩ := hJ
  obtain ⟨hi1, hi2, T, N, hc⟩ := hv1 rfl
  have hmx := how.2.2.2.2.2
  have htsW : ∀ w ∈ am_W, w.before #[Value.ref b] s = true := fun w hw => hts w (am_W_in hw)
  have hol : 0 < Λ.1 := by
    unfold am_ob at hob
    cases hb0 : Nat.blt 0 Λ.1 with
    | false => rw [hb0] at hob; cases hob
    | true => exact Nat.le_of_ble_eq_true hb0
  have hA : ∀ q, va_A (am_wl Λ g ν σ) H.size q → s.heap.size ≤ q := by
    intro q hq
    rcases hq with ⟨k, e, hk⟩ | hq
    · exact hD.2 k _ hk
    · exact Nat.le_trans hS.1 hq
  have hmap : as.map (am_tr ν) = as := by
    conv => rhs; rw [← List.map_id as]
    exact List.map_congr_left fun v hv => has v hv ν
  have hpre : ∀ U : State, U.heap = H → s.WarmedH U.vm → am_Pc Λ g ν σ (.ref 0 :: as) H.size (Value.ref (ν 0) :: as).toArray U := by
    intro U hU hW
    subst hU
    refine ⟨by rw [List.map_cons, hmap]; rfl, rfl, hP, hD.weaken (fun _ _ _ _ => trivial), hcl, fun v hv => ?_, hstr, am_ok_warm hW hS hA hok⟩
    rcases List.mem_cons.mp hv with rfl | hv
    · exact Or.inl (Nat.lt_of_lt_of_le hol hcl.2.1)
    · have h1 := has v hv (fun n => n + 1)
      cases v with
      | ref a =>
        have h2 : a + 1 = a := by injection h1
        exact absurd h2 (Nat.succ_ne_self a)
      | _ => trivial
  have hcell : ∃ cellB : Cell, H[ν 0]? = some cellB ∧ cellB.vm.isStatics = false ∧ s.vm.findClass (am_y J).cls = some cellB.cls := by
    unfold am_ob at hob
    have hb0 : Nat.blt 0 Λ.1 = true := Nat.ble_eq_true_of_le hol
    rw [hb0, cond_true] at hob
    cases hx0 : Λ.2 0 with
    | inr a => rw [hx0] at hob; cases hob
    | inl x =>
      rw [hx0] at hob
      have e1 : x.1 = ci := Nat.eq_of_beq_eq_true hob
      have he := am_wl_get (Λ := Λ) (g := g) (ν := ν) (Nat.lt_of_lt_of_le hol hcl.2.1)
      rw [am_ent_obj (ci := x.1) (fds := x.2) hol hx0, e1] at he
      obtain ⟨r1, q1, cell, q2, q3, q4, -⟩ := hP 0 _ he
      have hrr : r1 = ((am_y J).cls, T, N) := Option.some.inj (q1.symm.trans hc)
      subst hrr
      obtain ⟨-, hfc, -⟩ := hok.1.1 ci _ hc
      exact ⟨cell, q2, by rw [q4]; rfl, by rw [q3]; exact hfc⟩
  have hM := hC.2 l g ν H.size
  have hR : 2000 + 1 ≤ 2048 ∧ 8 + (am_mx J + 11) + 40 * 2000 ≤ 84000 := ⟨by decide, by omega⟩
  have hW8 : 2 * 0 + (rest.map fun v => v.category).sum ≤ 8 := by
    have key : ∀ t : List Value, (t.map fun v => v.category).sum = am_cat t := by
      intro t
      induction t with
      | nil => rfl
      | cons a u ih => simp only [List.map_cons, List.sum_cons, am_cat]; rw [ih]
    rw [key]
    omega
  exact va_runV (C := (am_y J).cls) (b := ν 0) (As := as) (own := R_law) ⟨hx, hb, hml, hown, hts⟩ hM ⟨callB_of n hts (lw_goodJ how) rfl rfl rfl (htsW _ how.2.2.1) (htsW _ hnest) ⟨how.2.2.2.1, how.2.2.2.2.1, hlen⟩ hR, htsW _ hi1, htsW _ hi2⟩ ⟨am_blind, hcell, hpre⟩ rfl hn hls hstk hW8 hd hroom
theorem lw_trs {x y : Nat} {as : List Value} (has : ∀ v ∈ as, ∀ ν : Nat → Nat, am_tr ν v = v) : as.map (lw_tr b x y) = as := by
  conv => rhs; rw [← List.map_id as]
  refine List.map_congr_left fun v hv => ?_
  have h1 := has v hv (fun n => n + 1)
  cases v with
  | ref a =>
    have h2 : a + 1 = a := by injection h1
    exact absurd h2 (Nat.succ_ne_self a)
  | _ => rfl
theorem lw_callx (C0 : lw_C p s m meth c b L xs g) {J : am_I} {idx n : Nat} {as rest : List Value} {r : Int32} {σ' : am_S} (hJ : am_mok R_law idx J n 1 9) (hd : decode code pc = .ok (.invokevirtual idx, 3)) (hl : Cond.methodLink R_law idx (am_y J) ∈ am_W) (hC : am_Ctr am_Lx J 2000 (.ref 0 :: as) σx (some (.int r)) σ') (hn : as.length = n) (has : ∀ v ∈ as, ∀ ν : Nat → Nat, am_tr ν v = v) (hcat : am_cat rest ≤ 8) (hst : st = as.reverse ++ .ref 0 :: rest)
    (h : lw_E p l e s m below meth c b g CB SB (pc + 3) i (.int r :: rest) σ' σm) : lw_E p l e s m below meth c b g CB SB pc i st σx σm := by
  intro H locs νx νm lsA Iv
  have Iv0 := Iv
  obtain ⟨i1, i2, i3, i4, i5, i6, i7, i8, ⟨i9, i10⟩, i11, i12, i13, i14, i15⟩ := Iv
  have c1 := hC.1
  have hcat2 : am_cat (rest.map (lw_tr b (νx 0) (νm 0))) ≤ 8 := by
    have key : ∀ t : List Value, am_cat (t.map (lw_tr b (νx 0) (νm 0))) = am_cat t := by
      intro t
      induction t with
      | nil => rfl
      | cons a u ih =>
        have e1 : (lw_tr b (νx 0) (νm 0) a).category = a.category := by
          cases a with
          | ref k => rcases k with _ | _ | k <;> rfl
          | _ => rfl
        simp only [List.map_cons, am_cat, e1]
        rw [ih]
    rw [key]
    exact hcat
  have hstk : st.map (lw_tr b (νx 0) (νm 0)) = as.reverse ++ .ref (νx 0) :: rest.map (lw_tr b (νx 0) (νm 0)) := by
    rw [hst, List.map_append, List.map_reverse, lw_trs has]
    rfl
  have hrun := lw_run (l := l) (e := e) (below := below) (cells := CB - gc σx) (slots := SB - gs σx) C0 hJ hd hl hC rfl hn has hcat2 i1 i3 i6 i7 i9 i11.1 hstk ⟨by omega, by omega⟩
  intro T hT X
  obtain ⟨v, st₀, t, T', L, h0, X', hL, e1, e2, ⟨⟨ν', hν, hnn, hv, hrs, hP, hD, hcl⟩, hz, hk⟩, go⟩ := hrun T hT X
  rw [h0] at hz hk
  have hA : ∀ q, va_A (am_wl am_Lx g νx σx) H.size q → s.heap.size ≤ q := by
    intro q hq
    rcases hq with ⟨k, e, hk⟩ | hq
    · exact i3.2 k _ hk
    · exact Nat.le_trans i6.1 hq
  obtain ⟨hP2, hd2⟩ := lw_keep (A := fun _ => True) i2 i5 hk hD
  have hv' : v = some (.int r) := by cases hv; rfl
  have hS' : va_S (fun q => s.heap.size ≤ q) s.heap T'.heap (locs ++ L) := ⟨Nat.le_trans i6.1 (by rw [e1]; exact hz), fun q h1 h2 => by
      rw [e1, hk q (Nat.lt_of_lt_of_le h1 i6.1) (fun z => h2 (hA q z))]
      exact i6.2.1 q h1 h2, fun q hq => by
      rcases List.mem_append.mp hq with h | h
      · exact i6.2.2 q h
      · exact hA _ (hL q h)⟩
  have hn0 : ν' 0 = νx 0 := hν 0 (Or.inl (Nat.lt_of_lt_of_le (by decide) i7.2.1))
  have key := h T'.heap (locs ++ L) ν' νm lsA ⟨by rw [e1]; exact hP, by rw [e1]; exact hP2, ⟨hD.1, fun k q hq => hA _ (hD.2 k q hq)⟩, i4, hd2, hS', hcl, i8, ⟨fun k => by rw [hν _ (Or.inr (Nat.le_add_right _ _))]; exact i9 k, i10⟩, by rw [hn0]; exact i11, by omega, by omega, i14, i15⟩
  rw [hn0, show CB - gc σ' = CB - gc σx + (gc σx - gc σ') by omega, show SB - gs σ' = SB - gs σx + (gs σx - gs σ') by omega] at key
  obtain ⟨t2, a1, b1⟩ := key T' rfl X'
  refine ⟨t2, go t2 ?_, b1⟩
  rw [hv']
  exact a1
theorem lw_callm (C0 : lw_C p s m meth c b L xs g) {J : am_I} {idx n : Nat} {as rest : List Value} {r : Int32} {σ' : am_S} (hJ : am_mok R_law idx J n 1 10) (hd : decode code pc = .ok (.invokevirtual idx, 3)) (hl : Cond.methodLink R_law idx (am_y J) ∈ am_W) (hC : am_Ctr am_Lm J 2000 (.ref 0 :: as) σm (some (.int r)) σ') (hg : gc σm = gc σ' ∧ gs σm = gs σ') (hn : as.length = n) (has : ∀ v ∈ as, ∀ ν : Nat → Nat, am_tr ν v = v) (hcat : am_cat rest ≤ 8) (hst : st = as.reverse ++ .ref 1 :: rest)
    (h : lw_E p l e s m below meth c b g CB SB (pc + 3) i (.int r :: rest) σx σ') : lw_E p l e s m below meth c b g CB SB pc i st σx σm := by
  intro H locs νx νm lsA Iv
  obtain ⟨i1, i2, i3, i4, i5, i6, i7, i8, ⟨i9, i10⟩, i11, i12, i13, i14, i15⟩ := Iv
  have hcat2 : am_cat (rest.map (lw_tr b (νx 0) (νm 0))) ≤ 8 := by
    have key : ∀ t : List Value, am_cat (t.map (lw_tr b (νx 0) (νm 0))) = am_cat t := by
      intro t
      induction t with
      | nil => rfl
      | cons a u ih =>
        have e1 : (lw_tr b (νx 0) (νm 0) a).category = a.category := by
          cases a with
          | ref k => rcases k with _ | _ | k <;> rfl
          | _ => rfl
        simp only [List.map_cons, am_cat, e1]
        rw [ih]
    rw [key]
    exact hcat
  have hstk : st.map (lw_tr b (νx 0) (νm 0)) = as.reverse ++ .ref (νm 0) :: rest.map (lw_tr b (νx 0) (νm 0)) := by
    rw [hst, List.map_append, List.map_reverse, lw_trs has]
    rfl
  have hrun := lw_run (l := l) (e := e) (below := below) (cells := CB - gc σx) (slots := SB - gs σx) C0 hJ hd hl hC rfl hn has hcat2 i2 i4 i6 i8 i10 i11.1 hstk ⟨by omega, by omega⟩
  intro T hT X
  obtain ⟨v, st₀, t, T', L, h0, X', hL, e1, e2, ⟨⟨ν', hν, hnn, hv, hrs, hP, hD, hcl⟩, hz, hk⟩, go⟩ := hrun T hT X
  rw [h0] at hz hk
  have hA : ∀ q, va_A (am_wl am_Lm g νm σm) H.size q → s.heap.size ≤ q := by
    intro q hq
    rcases hq with ⟨k, e, hk⟩ | hq
    · exact i4.2 k _ hk
    · exact Nat.le_trans i6.1 hq
  obtain ⟨hP2, hd2⟩ := lw_keep (A := fun _ => True) i1 (lw_dis_symm i5) hk hD
  have hv' : v = some (.int r) := by cases hv; rfl
  have hS' : va_S (fun q => s.heap.size ≤ q) s.heap T'.heap (locs ++ L) := ⟨Nat.le_trans i6.1 (by rw [e1]; exact hz), fun q h1 h2 => by
      rw [e1, hk q (Nat.lt_of_lt_of_le h1 i6.1) (fun z => h2 (hA q z))]
      exact i6.2.1 q h1 h2, fun q hq => by
      rcases List.mem_append.mp hq with h | h
      · exact i6.2.2 q h
      · exact hA _ (hL q h)⟩
  have hn0 : ν' 0 = νm 0 := hν 0 (Or.inl (Nat.lt_of_lt_of_le (by decide) i8.2.1))
  have key := h T'.heap (locs ++ L) νx ν' lsA ⟨by rw [e1]; exact hP2, by rw [e1]; exact hP, i3, ⟨hD.1, fun k q hq => hA _ (hD.2 k q hq)⟩, lw_dis_symm hd2, hS', i7, hcl, ⟨i9, fun k => by rw [hν _ (Or.inr (Nat.le_add_right _ _))]; exact i10 k⟩, by rw [hn0]; exact i11, i12, i13, i14, i15⟩
  rw [hn0] at key
  rw [hg.1, hg.2, Nat.sub_self, Nat.sub_self, Nat.add_zero, Nat.add_zero] at X'
  obtain ⟨t2, a1, b1⟩ := key T' rfl X'
  refine ⟨t2, go t2 ?_, b1⟩
  rw [hv']
  exact a1
end LWS
