/-! ===== the unknowns of two sides ===== -/
noncomputable def uN (P : List (Tm × Int)) : List (Tm × Int) := ((tAll (P.map (·.1))).map (fun z => (z, net z P))).filter nz
noncomputable def uP (k : Nat) (x y : Tm) : List (Tm × Int) := (fl1 k x).map (fun z => (z, (1 : Int))) ++ (fl1 k y).map (fun z => (z, (-1 : Int)))
def uw (U : List (Tm × Int)) (j : Nat) : Int := (U.map (·.2)).getD j 0
def mxI (f : Nat → Int) : Nat → Int
  | 0 => 0
  | j + 1 => if mxI f j < f j then f j else mxI f j
def mnI (f : Nat → Int) : Nat → Int
  | 0 => 0
  | j + 1 => if f j < mnI f j then f j else mnI f j
def uS (U : List (Tm × Int)) : Nat := (mxI (uw U) U.length - mnI (uw U) U.length).toNat
noncomputable def uB (U : List (Tm × Int)) : List (List Nat) := sols 1 U.length (uS U) (fun _ => uw U)
noncomputable def uG (U : List (Tm × Int)) : List Nat := gls (covB (uB U) (vn U)) (grB (uB U) (vn U) U.length) (uB U).length (allB (vn U)) (allL (vn U) U.length)
/-- what a side may be -/
def takP (k : Nat) (x : Tm) : Prop := vb x < 64 ∧ ∀ z ∈ fl1 k x, kd z = 0 ∨ vb z = 0
def okU (k : Nat) (U : List (Tm × Int)) : Prop := U.length ≤ 16 ∧ vn U ≤ 6 ∧ (∀ q ∈ U, Can q.1 ∧ fits q.1 ∧ kd q.1 ≠ k ∧ (kd q.1 = 0 ∨ vb q.1 = 0) ∧ q.2 ≠ 0 ∧ -8 ≤ q.2 ∧ q.2 ≤ 8) ∧ (U.map (·.1)).Pairwise tlt ∧ (∀ j q, U[j]? = some q → (j < vn U ↔ kd q.1 = 0)) ∧ (∀ q ∈ U, kd q.1 = 0 → q.1 = node 0 (nm q.1) [] ∧ nm q.1 < 6)
theorem mxI_bd {f : Nat → Int} {B : Int} (h0 : 0 ≤ B) : ∀ {j : Nat}, (∀ i, i < j → f i ≤ B) → 0 ≤ mxI f j ∧ mxI f j ≤ B
  | 0, _ => ⟨Int.le_refl _, h0⟩
  | j + 1, h => by
    have := mxI_bd h0 (j := j) fun i hi => h i (by omega)
    have h2 := h j (by omega)
    simp only [mxI]
    split <;> omega
theorem mnI_bd {f : Nat → Int} {B : Int} (h0 : B ≤ 0) : ∀ {j : Nat}, (∀ i, i < j → B ≤ f i) → mnI f j ≤ 0 ∧ B ≤ mnI f j
  | 0, _ => ⟨Int.le_refl _, h0⟩
  | j + 1, h => by
    have := mnI_bd h0 (j := j) fun i hi => h i (by omega)
    have h2 := h j (by omega)
    simp only [mnI]
    split <;> omega
theorem mxI_ge {f : Nat → Int} : ∀ {j i : Nat}, i < j → f i ≤ mxI f j
  | 0, i, h => by omega
  | j + 1, i, h => by
    by_cases e : i = j
    · subst e
      simp only [mxI]
      split <;> omega
    · have := mxI_ge (f := f) (j := j) (i := i) (by omega)
      simp only [mxI]
      split <;> omega
theorem mnI_le {f : Nat → Int} : ∀ {j i : Nat}, i < j → mnI f j ≤ f i
  | 0, i, h => by omega
  | j + 1, i, h => by
    by_cases e : i = j
    · subst e
      simp only [mnI]
      split <;> omega
    · have := mnI_le (f := f) (j := j) (i := i) (by omega)
      simp only [mnI]
      split <;> omega
theorem net_app (z : Tm) (P R : List (Tm × Int)) : net z (P ++ R) = net z P + net z R := by
  induction P with
  | nil => simp [net]
  | cons q P ih =>
    simp only [List.cons_append, net, ih]
    omega
theorem net_pos (z : Tm) (L : List Tm) : 0 ≤ net z (L.map (fun z => (z, (1 : Int)))) ∧ net z (L.map (fun z => (z, (1 : Int)))) ≤ L.length := by
  induction L with
  | nil => simp [net]
  | cons q P ih =>
    simp only [List.map_cons, net, List.length_cons]
    split <;> omega
theorem net_negs (z : Tm) (L : List Tm) : net z (L.map (fun z => (z, (-1 : Int)))) ≤ 0 ∧ -(L.length : Int) ≤ net z (L.map (fun z => (z, (-1 : Int)))) := by
  induction L with
  | nil => simp [net]
  | cons q P ih =>
    simp only [List.map_cons, net, List.length_cons]
    split <;> omega
theorem tlt_kd {x y : Tm} (h : tlt x y) (hx : wf x) : kd x ≤ kd y := by
  cases x with
  | nil => exact absurd (wf_pos hx) (by simp)
  | cons a x =>
    cases y with
    | nil => exact False.elim h
    | cons b y =>
      rcases h with h | ⟨h, _⟩
      · rcases h with h | ⟨h, _⟩
        · exact Nat.le_of_lt h
        · exact Nat.le_of_eq h
      · rw [h]; exact Nat.le_refl _
/-- variables come first -/
theorem vn_first : ∀ {U : List (Tm × Int)}, (U.map (·.1)).Pairwise tlt → (∀ q ∈ U, wf q.1) → ∀ j q, U[j]? = some q → (j < vn U ↔ kd q.1 = 0)
  | [], _, _, j, q, h => by simp at h
  | p :: U, hs, hw, j, q, h => by
    rw [List.map_cons] at hs
    have hs2 := List.pairwise_cons.mp hs
    have ih := vn_first hs2.2 (fun q hq => hw q (List.mem_cons_of_mem _ hq))
    have hle : ∀ r ∈ U, kd p.1 ≤ kd r.1 := fun r hr => tlt_kd (hs2.1 r.1 (List.mem_map.mpr ⟨r, hr, rfl⟩)) (hw p List.mem_cons_self)
    by_cases hp : kd p.1 = 0
    · have e : vn (p :: U) = vn U + 1 := by
        unfold vn
        rw [List.filter_cons, if_pos (by simpa using hp), List.length_cons]
      rw [e]
      cases j with
      | zero =>
        cases h
        exact ⟨fun _ => hp, fun _ => by omega⟩
      | succ j =>
        have := ih j q (by simpa using h)
        omega
    · have e : vn (p :: U) = 0 := by
        unfold vn
        rw [List.length_eq_zero_iff, List.filter_eq_nil_iff]
        intro r hr
        rcases List.mem_cons.mp hr with e | hr
        · rw [e]; simpa using hp
        · have := hle r hr
          simp
          omega
      rw [e]
      constructor
      · intro h; omega
      · intro h0
        exfalso
        cases j with
        | zero => cases h; exact hp h0
        | succ j =>
          have := hle q (get_mem (by simpa using h : U[j]? = some q))
          omega
theorem fl1_fits {k : Nat} {x : Tm} (hx : Can x) (hf : fits x) (hk : k = 3 ∨ k = 4) : (fl1 k x).length ≤ 8 ∧ ∀ z ∈ fl1 k x, Can z ∧ fits z ∧ kd z ≠ k := by
  by_cases e : kd x = k
  · rw [fl1_eq e]
    have h1 := fits_pts hx hf
    have h2 := Can_pts hx
    refine ⟨h1.1, fun z hz => ⟨h2.2.2 z hz, h1.2 z hz, ?_⟩⟩
    rcases h2.2.1 with ⟨a, _⟩ | ⟨a, _⟩ | ⟨a, _⟩ | ⟨a, _, _, _, b⟩
    · omega
    · omega
    · omega
    · rw [← e]; exact b z hz
  · rw [fl1_ne e]
    exact ⟨by simp, fun z hz => by rw [List.mem_singleton.mp hz]; exact ⟨hx, hf, e⟩⟩
theorem kd0_node {z : Tm} (h : Can z) (h0 : kd z = 0) : z = node 0 (nm z) [] ∧ nm z < 22 := by
  obtain ⟨e, l, _⟩ := Can_pts h
  rw [h0] at e l
  rcases l with ⟨_, a, b⟩ | ⟨a, _⟩ | ⟨a, _⟩ | ⟨a, _⟩
  · rw [b] at e; exact ⟨e, a⟩
  · omega
  · omega
  · omega
theorem vb_var {z : Tm} (h : Can z) (h0 : kd z = 0) : vb z = 2 ^ nm z := by
  obtain ⟨e, _⟩ := kd0_node h h0
  rw [e, vb_node]
  simp [vb, nm_node]
theorem vb_mem_flat : ∀ {L : List Tm} {z : Tm}, z ∈ L → vb z ||| vb L.flatten = vb L.flatten
  | [], _, h => by simp at h
  | y :: L, z, h => by
    rw [List.flatten_cons, vb_app]
    rcases List.mem_cons.mp h with e | h
    · rw [e, ← Nat.or_assoc, Nat.or_self]
    · rw [← Nat.or_assoc, Nat.or_comm (vb z), Nat.or_assoc, vb_mem_flat h]
theorem vb_fl1 {k : Nat} {x z : Tm} (hx : Can x) (hz : z ∈ fl1 k x) : vb z ≤ vb x := by
  by_cases e : kd x = k
  · rw [fl1_eq e] at hz
    have h1 := (Can_pts hx).1
    have h2 : vb (pts x).flatten ≤ vb x := by
      have : vb x = (if kd x = 0 then 2 ^ nm x else 0) ||| vb (pts x).flatten := by
        rw [← vb_node, ← h1]
      rw [this]
      exact Nat.right_le_or
    rw [← vb_mem_flat hz] at h2
    exact Nat.le_trans Nat.left_le_or h2
  · rw [fl1_ne e] at hz
    rw [List.mem_singleton.mp hz]
    exact Nat.le_refl _
theorem uP_mem {k : Nat} {x y : Tm} {q : Tm × Int} (h : q ∈ uP k x y) : (q.1 ∈ fl1 k x ∧ q.2 = 1) ∨ (q.1 ∈ fl1 k y ∧ q.2 = -1) := by
  rcases List.mem_append.mp h with h | h
  · obtain ⟨z, hz, e⟩ := List.mem_map.mp h
    rw [← e]; exact Or.inl ⟨hz, rfl⟩
  · obtain ⟨z, hz, e⟩ := List.mem_map.mp h
    rw [← e]; exact Or.inr ⟨hz, rfl⟩
theorem uN_mem {P : List (Tm × Int)} {q : Tm × Int} : q ∈ uN P ↔ q.1 ∈ P.map (·.1) ∧ q.2 = net q.1 P ∧ q.2 ≠ 0 := by
  unfold uN
  rw [List.mem_filter, List.mem_map]
  constructor
  · rintro ⟨⟨z, hz, e⟩, h⟩
    rw [← e] at h ⊢
    exact ⟨tAll_mem.mp hz, rfl, by simpa [nz] using h⟩
  · rintro ⟨h1, h2, h3⟩
    exact ⟨⟨q.1, tAll_mem.mpr h1, by rw [← h2]⟩, by simpa [nz] using h3⟩
theorem uN_sorted {P : List (Tm × Int)} (h : ∀ z ∈ P.map (·.1), wf z) : ((uN P).map (·.1)).Pairwise tlt := by
  have h1 := tAll_ss h
  unfold uN
  rw [List.pairwise_map]
  refine List.Pairwise.filter _ ?_
  rw [List.pairwise_map]
  exact h1
theorem uN_ok {k : Nat} {x y : Tm} (hk : k = 3 ∨ k = 4) (hx : Can x) (hfx : fits x) (hy : Can y) (hfy : fits y) (tx : takP k x) (ty : takP k y) : okU k (uN (uP k x y)) := by
  have fx := fl1_fits hx hfx hk
  have fy := fl1_fits hy hfy hk
  have hP : ∀ z ∈ (uP k x y).map (·.1), Can z ∧ fits z ∧ kd z ≠ k ∧ (kd z = 0 ∨ vb z = 0) ∧ vb z < 64 := fun z hz => by
    obtain ⟨q, hq, e⟩ := List.mem_map.mp hz
    rw [← e]
    rcases uP_mem hq with ⟨h, _⟩ | ⟨h, _⟩
    · have := fx.2 _ h
      exact ⟨this.1, this.2.1, this.2.2, tx.2 _ h, Nat.lt_of_le_of_lt (vb_fl1 hx h) tx.1⟩
    · have := fy.2 _ h
      exact ⟨this.1, this.2.1, this.2.2, ty.2 _ h, Nat.lt_of_le_of_lt (vb_fl1 hy h) ty.1⟩
  have hs : ((uN (uP k x y)).map (·.1)).Pairwise tlt := uN_sorted fun z hz => Can_wf (hP z hz).1
  have hm : ∀ q ∈ uN (uP k x y), q.1 ∈ (uP k x y).map (·.1) := fun q hq => (uN_mem.mp hq).1
  have hlen : (uN (uP k x y)).length ≤ 16 := by
    have h1 : (uN (uP k x y)).length ≤ (tAll ((uP k x y).map (·.1))).length := by
      unfold uN
      refine Nat.le_trans (List.length_filter_le _ _) ?_
      rw [List.length_map]
      exact Nat.le_refl _
    have h2 := tAll_len ((uP k x y).map (·.1))
    rw [List.length_map] at h2
    have h3 : (uP k x y).length = (fl1 k x).length + (fl1 k y).length := by
      unfold uP
      simp
    omega
  have hv6 : ∀ q ∈ uN (uP k x y), kd q.1 = 0 → q.1 = node 0 (nm q.1) [] ∧ nm q.1 < 6 := fun q hq h0 => by
    obtain ⟨a1, _, _, _, a5⟩ := hP _ (hm q hq)
    refine ⟨(kd0_node a1 h0).1, ?_⟩
    rw [vb_var a1 h0] at a5
    refine Nat.lt_of_not_le fun h => ?_
    have := Nat.pow_le_pow_right (n := 2) (by decide) h
    omega
  refine ⟨hlen, ?_, fun q hq => ?_, hs, vn_first hs fun q hq => Can_wf (hP _ (hm q hq)).1, hv6⟩
  · -- no more than six variables
    unfold vn
    have hnd : (((uN (uP k x y)).filter (fun q => decide (kd q.1 = 0))).map (fun q => nm q.1)).Nodup := by
      have h1 : ((uN (uP k x y)).filter (fun q => decide (kd q.1 = 0))).Pairwise (fun p q => tlt p.1 q.1) := List.Pairwise.filter _ (List.pairwise_map.mp hs)
      refine List.pairwise_map.mpr (List.Pairwise.imp_of_mem (fun {p q} hp hq hpq e => ?_) h1)
      have hp2 := List.mem_filter.mp hp
      have hq2 := List.mem_filter.mp hq
      have e1 := (hv6 p hp2.1 (by simpa using hp2.2)).1
      have e2 := (hv6 q hq2.1 (by simpa using hq2.2)).1
      rw [e1, e2, e] at hpq
      exact tlt_irr _ hpq
    have := nd_le hnd (l := List.range 6) (fun a ha => by
      obtain ⟨q, hq, e⟩ := List.mem_map.mp ha
      have hq2 := List.mem_filter.mp hq
      rw [← e]
      exact List.mem_range.mpr (hv6 q hq2.1 (by simpa using hq2.2)).2)
    simpa using this
  · obtain ⟨a1, a2, a3, a4, _⟩ := hP _ (hm q hq)
    obtain ⟨_, b1, b2⟩ := uN_mem.mp hq
    refine ⟨a1, a2, a3, a4, b2, ?_⟩
    rw [b1]
    unfold uP
    rw [net_app]
    have n1 := net_pos q.1 (fl1 k x)
    have n2 := net_negs q.1 (fl1 k y)
    omega
theorem uw_get {U : List (Tm × Int)} {j : Nat} {q : Tm × Int} (h : U[j]? = some q) : uw U j = q.2 := by
  unfold uw
  rw [List.getD_eq_getElem?_getD, List.getElem?_map, h]
  rfl
theorem uw_ok {k : Nat} {U : List (Tm × Int)} (h : okU k U) {j : Nat} (hj : j < U.length) : uw U j ≠ 0 ∧ -8 ≤ uw U j ∧ uw U j ≤ 8 := by
  rw [uw_get (List.getElem?_eq_getElem hj)]
  exact (h.2.2.1 _ (List.getElem_mem hj)).2.2.2.2
theorem uS_bd {k : Nat} {U : List (Tm × Int)} (h : okU k U) : uS U ≤ 16 ∧ ((uS U : Nat) : Int) = mxI (uw U) U.length - mnI (uw U) U.length := by
  have h1 := mxI_bd (f := uw U) (B := 8) (by decide) (j := U.length) fun i hi => (uw_ok h hi).2.2
  have h2 := mnI_bd (f := uw U) (B := -8) (by decide) (j := U.length) fun i hi => (uw_ok h hi).2.1
  unfold uS
  omega
