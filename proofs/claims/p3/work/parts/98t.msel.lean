/-! ===== parts that are chosen by bits ===== -/
theorem lt_tb {x y i : Nat} (hx : x.testBit i = false) (hy : y.testBit i = true) (h : ∀ j, i < j → x.testBit j = y.testBit j) : x < y := by
  have e : x / 2 ^ (i + 1) = y / 2 ^ (i + 1) := Nat.eq_of_testBit_eq fun j => by
    rw [Nat.testBit_div_two_pow, Nat.testBit_div_two_pow]
    exact h _ (by omega)
  have h1 : x % 2 ^ (i + 1) < 2 ^ i := bits_lt fun j hj => by
    rw [Nat.testBit_mod_two_pow, Bool.and_eq_true, decide_eq_true_iff] at hj
    have hne : j ≠ i := fun z => by rw [z, hx] at hj; exact absurd hj.2 (by simp)
    omega
  have h2 : 2 ^ i ≤ y % 2 ^ (i + 1) := Nat.ge_two_pow_of_testBit (by
    rw [Nat.testBit_mod_two_pow, hy]
    simp)
  have a1 := Nat.div_add_mod x (2 ^ (i + 1))
  have a2 := Nat.div_add_mod y (2 ^ (i + 1))
  rw [e] at a1
  omega
def selF (f : Nat → Bool) : Nat → List Tm → List Tm
  | _, [] => []
  | i, y :: L => if f i then y :: selF f (i + 1) L else selF f (i + 1) L
theorem selF_congr {f g : Nat → Bool} : ∀ {L : List Tm} {i : Nat}, (∀ j, i ≤ j → j < i + L.length → f j = g j) → selF f i L = selF g i L
  | [], _, _ => rfl
  | y :: L, i, h => by
    simp only [selF]
    rw [h i (Nat.le_refl _) (by simp), selF_congr (L := L) (i := i + 1) fun j h1 h2 => h j (by omega) (by simp; omega)]
theorem selF_split {f g h : Nat → Bool} (hd : ∀ j, f j = (g j || h j)) (hx : ∀ j, g j = true → h j = false) : ∀ (L : List Tm) (i : Nat), (selF f i L).Perm (selF g i L ++ selF h i L)
  | [], _ => List.Perm.nil
  | y :: L, i => by
    have ih := selF_split hd hx L (i + 1)
    simp only [selF]
    rw [hd i]
    cases hg : g i with
    | true =>
      rw [hx i hg]
      simpa using ih
    | false =>
      cases hh : h i with
      | true =>
        simp only [Bool.or_true, if_true, Bool.false_eq_true, if_false]
        exact (ih.cons y).trans List.perm_middle.symm
      | false => simpa using ih
theorem selF_mem {f : Nat → Bool} {y : Tm} : ∀ {L : List Tm} {i : Nat}, y ∈ selF f i L ↔ ∃ j, L[j]? = some y ∧ f (i + j) = true
  | [], i => by simp [selF]
  | z :: L, i => by
    have ih := selF_mem (f := f) (y := y) (L := L) (i := i + 1)
    simp only [selF]
    constructor
    · intro h
      cases hf : f i with
      | true =>
        rw [hf, if_pos rfl] at h
        rcases List.mem_cons.mp h with e | h
        · exact ⟨0, by rw [e]; rfl, hf⟩
        · obtain ⟨j, j1, j2⟩ := ih.mp h
          exact ⟨j + 1, by simpa using j1, by rw [show i + (j + 1) = i + 1 + j by omega]; exact j2⟩
      | false =>
        rw [hf] at h
        obtain ⟨j, j1, j2⟩ := ih.mp (by simpa using h)
        exact ⟨j + 1, by simpa using j1, by rw [show i + (j + 1) = i + 1 + j by omega]; exact j2⟩
    · rintro ⟨j, j1, j2⟩
      cases j with
      | zero =>
        rw [if_pos (by simpa using j2)]
        simp at j1
        rw [j1]
        exact List.mem_cons_self
      | succ j =>
        have : y ∈ selF f (i + 1) L := ih.mpr ⟨j, by simpa using j1, by rw [show i + 1 + j = i + (j + 1) by omega]; exact j2⟩
        split
        · exact List.mem_cons_of_mem _ this
        · exact this
theorem selF_len (f : Nat → Bool) : ∀ (L : List Tm) (i : Nat), (selF f i L).length ≤ L.length
  | [], _ => Nat.le_refl _
  | y :: L, i => by
    have := selF_len f L (i + 1)
    simp only [selF]
    split
    · simp; omega
    · simp; omega
theorem selF_none {f : Nat → Bool} : ∀ {L : List Tm} {i : Nat}, (∀ j, i ≤ j → j < i + L.length → f j = false) → selF f i L = []
  | [], _, _ => rfl
  | y :: L, i, h => by
    simp only [selF]
    rw [h i (Nat.le_refl _) (by simp)]
    exact selF_none (L := L) (i := i + 1) fun j h1 h2 => h j (by omega) (by simp; omega)
theorem selF_all {f : Nat → Bool} : ∀ {L : List Tm} {i : Nat}, (∀ j, i ≤ j → j < i + L.length → f j = true) → selF f i L = L
  | [], _, _ => rfl
  | y :: L, i, h => by
    simp only [selF]
    rw [h i (Nat.le_refl _) (by simp), if_pos rfl, selF_all (L := L) (i := i + 1) fun j h1 h2 => h j (by omega) (by simp; omega)]
theorem selF_one {f : Nat → Bool} : ∀ {L : List Tm} {i j : Nat}, (∀ q, f q = decide (q = i + j)) → (hj : j < L.length) → selF f i L = [L[j]]
  | [], i, j, _, hj => by simp at hj
  | y :: L, i, 0, h, _ => by
    simp only [selF]
    rw [h i, selF_none (L := L) (i := i + 1) fun q h1 h2 => by rw [h q]; simp; omega]
    simp
  | y :: L, i, j + 1, h, hj => by
    simp only [selF]
    rw [h i, selF_one (L := L) (i := i + 1) (j := j) (fun q => by rw [h q, show i + 1 + j = i + (j + 1) by omega]) (by simpa using hj)]
    simp
/-- the parts that are left -/
def unm (L : List Tm) (m : Nat) : List Tm := selF (fun j => ! m.testBit j) 0 L
def pck (L : List Tm) (s : Nat) : List Tm := selF (fun j => s.testBit j) 0 L
theorem unm_0 (L : List Tm) : unm L 0 = L := selF_all fun j _ _ => by simp
theorem unm_mem {L : List Tm} {m : Nat} {y : Tm} : y ∈ unm L m ↔ ∃ j, L[j]? = some y ∧ m.testBit j = false := by
  unfold unm
  rw [selF_mem]
  simp
theorem unm_one {L : List Tm} {m i : Nat} (hi : i < L.length) (hm : m.testBit i = false) : (unm L m).Perm (L[i] :: unm L (m ||| 2 ^ i)) := by
  have := selF_split (f := fun j => ! m.testBit j) (g := fun j => decide (j = 0 + i)) (h := fun j => ! (m ||| 2 ^ i).testBit j) (fun j => by
    rw [Nat.testBit_or, tb_pow, Nat.zero_add]
    by_cases e : j = i
    · subst e; simp [hm]
    · simp [e, Ne.symm e]) (fun j hj => by
    rw [Nat.testBit_or, tb_pow]
    have : j = i := by simpa using hj
    simp [this]) L 0
  rw [selF_one (j := i) (fun q => rfl) hi] at this
  exact this
theorem unm_set {L : List Tm} {m s : Nat} (hs : s &&& m = 0) : (unm L m).Perm (pck L s ++ unm L (m ||| s)) := by
  refine selF_split (fun j => ?_) (fun j hj => ?_) L 0
  · rw [Nat.testBit_or]
    have := and_0.mp hs j
    cases q : s.testBit j with
    | false => simp
    | true =>
      cases r : m.testBit j with
      | false => simp
      | true => exact absurd ⟨q, r⟩ this
  · rw [Nat.testBit_or, hj]
    simp
theorem unm_nil {L : List Tm} {m : Nat} (hm : m < 2 ^ L.length) : unm L m = [] ↔ m = 2 ^ L.length - 1 := by
  constructor
  · intro h
    refine tb_eq fun j => ?_
    rw [Nat.testBit_two_pow_sub_one, decide_eq_true_iff]
    constructor
    · intro hj
      refine Nat.lt_of_not_le fun c => ?_
      rw [tb_hi hm c] at hj
      cases hj
    · intro hj
      cases q : m.testBit j with
      | true => rfl
      | false =>
        have : L[j] ∈ unm L m := unm_mem.mpr ⟨j, List.getElem?_eq_getElem hj, q⟩
        rw [h] at this
        simp at this
  · intro h
    apply List.eq_nil_iff_forall_not_mem.mpr
    intro y hy
    obtain ⟨j, j1, j2⟩ := unm_mem.mp hy
    rw [h, Nat.testBit_two_pow_sub_one] at j2
    have := get_lt j1
    simp at j2
    omega
/-- one of those that are left is the first of its like -/
theorem unm_first {L : List Tm} {m : Nat} {y : Tm} (h : y ∈ unm L m) : ∃ i, L[i]? = some y ∧ m.testBit i = false ∧ (i = 0 ∨ m.testBit (i - 1) = true ∨ L[i - 1]? ≠ L[i]?) := by
  obtain ⟨j, j1, j2⟩ := unm_mem.mp h
  obtain ⟨i, ⟨i1, i2⟩, i3⟩ := pk_least (fun i => L[i]? = some y ∧ m.testBit i = false) ⟨j, j1, j2⟩
  refine ⟨i, i1, i2, ?_⟩
  rcases Nat.eq_zero_or_pos i with q | q
  · exact Or.inl q
  · right
    refine Classical.byContradiction fun c => i3 (i - 1) (by omega) ⟨?_, ?_⟩
    · rw [← i1]
      exact Classical.byContradiction fun z => c (Or.inr z)
    · cases r : m.testBit (i - 1) with
      | false => rfl
      | true => exact absurd (Or.inl r) c
theorem unm_some {L : List Tm} : ∀ {W R : List Tm} {m : Nat}, (unm L m).Perm (W ++ R) → ∃ s, s &&& m = 0 ∧ s < 2 ^ L.length ∧ (pck L s).Perm W
  | [], R, m, _ => ⟨0, by simp, Nat.two_pow_pos _, by
    have : pck L 0 = [] := selF_none fun j _ _ => by simp
    rw [this]⟩
  | w :: W, R, m, h => by
    have hw : w ∈ unm L m := h.mem_iff.mpr (by simp)
    obtain ⟨i, i1, i2⟩ := unm_mem.mp hw
    have hi := get_lt i1
    have e : L[i] = w := by
      rw [List.getElem?_eq_getElem hi] at i1
      exact Option.some.inj i1
    have h2 := (unm_one hi i2).symm.trans h
    rw [e] at h2
    obtain ⟨s, s1, s2, s3⟩ := unm_some (W := W) (R := R) (m := m ||| 2 ^ i) (List.Perm.cons_inv h2)
    have hsi : s.testBit i = false := by
      cases q : s.testBit i with
      | false => rfl
      | true => exact absurd ⟨q, by rw [Nat.testBit_or, tb_pow]; simp⟩ (and_0.mp s1 i)
    refine ⟨s ||| 2 ^ i, ?_, or_lt s2 (Nat.pow_lt_pow_right (by decide) hi), ?_⟩
    · refine and_0.mpr fun j hj => ?_
      rw [Nat.testBit_or, tb_pow, Bool.or_eq_true] at hj
      rcases hj.1 with q | q
      · exact and_0.mp s1 j ⟨q, by rw [Nat.testBit_or, hj.2]; rfl⟩
      · have : i = j := by simpa using q
        rw [← this, i2] at hj
        exact absurd hj.2 (by simp)
    · have := selF_split (f := fun j => (s ||| 2 ^ i).testBit j) (g := fun j => decide (j = 0 + i)) (h := fun j => s.testBit j) (fun j => by
        rw [Nat.testBit_or, tb_pow, Nat.zero_add, Bool.or_comm]
        by_cases e : i = j
        · subst e; simp
        · simp [e, Ne.symm e]) (fun j hj => by
        have : j = i := by simpa using hj
        rw [this]; exact hsi) L 0
      rw [selF_one (j := i) (fun q => rfl) hi, e] at this
      exact this.trans (s3.cons w)
/-- of like ones the earlier are taken -/
def lowS (L : List Tm) (s m : Nat) : Prop := ∀ i, 1 ≤ i → i < L.length → s.testBit i = true → (s.testBit (i - 1) = true ∨ m.testBit (i - 1) = true ∨ L[i - 1]? ≠ L[i]?)
theorem unm_low {L W R : List Tm} {m : Nat} (h : (unm L m).Perm (W ++ R)) : ∃ s, s &&& m = 0 ∧ s < 2 ^ L.length ∧ (pck L s).Perm W ∧ lowS L s m := by
  obtain ⟨s, ⟨s1, s2, s3⟩, s4⟩ := pk_least (fun s => s &&& m = 0 ∧ s < 2 ^ L.length ∧ (pck L s).Perm W) (unm_some h)
  refine ⟨s, s1, s2, s3, fun i i1 i2 i3 => ?_⟩
  refine Classical.byContradiction fun c => ?_
  have c1 : s.testBit (i - 1) = false := by
    cases q : s.testBit (i - 1) with
    | false => rfl
    | true => exact absurd (Or.inl q) c
  have c2 : m.testBit (i - 1) = false := by
    cases q : m.testBit (i - 1) with
    | false => rfl
    | true => exact absurd (Or.inr (Or.inl q)) c
  have c3 : L[i - 1]? = L[i]? := Classical.byContradiction fun z => c (Or.inr (Or.inr z))
  have hne : ¬ i = i - 1 := by omega
  -- the earlier one in its place
  have tb' : ∀ j, ((s ^^^ 2 ^ i) ||| 2 ^ (i - 1)).testBit j = ((s.testBit j && ! decide (j = i)) || decide (j = i - 1)) := fun j => by
    rw [Nat.testBit_or, Nat.testBit_xor, tb_pow, tb_pow]
    by_cases e : j = i
    · subst e; simp [i3, hne, Ne.symm hne]
    · have e2 : ¬ i = j := fun z => e z.symm
      by_cases e3 : j = i - 1
      · simp [e, e2, e3]
      · have e4 : ¬ i - 1 = j := fun z => e3 z.symm
        simp [e, e2, e3, e4]
  refine s4 ((s ^^^ 2 ^ i) ||| 2 ^ (i - 1)) ?_ ⟨?_, ?_, ?_⟩
  · refine lt_tb (i := i) ?_ i3 fun j hj => ?_
    · rw [tb']; simp [hne]
    · rw [tb']
      have h1 : ¬ j = i := by omega
      have h2 : ¬ j = i - 1 := by omega
      simp [h1, h2]
  · refine and_0.mpr fun j hj => ?_
    rw [tb', Bool.or_eq_true] at hj
    rcases hj.1 with q | q
    · rw [Bool.and_eq_true] at q
      exact and_0.mp s1 j ⟨q.1, hj.2⟩
    · have : j = i - 1 := by simpa using q
      rw [this, c2] at hj
      exact absurd hj.2 (by simp)
  · refine bits_lt fun j hj => ?_
    rw [tb', Bool.or_eq_true] at hj
    rcases hj with q | q
    · rw [Bool.and_eq_true] at q
      refine Nat.lt_of_not_le fun z => ?_
      rw [tb_hi s2 z] at q
      exact absurd q.1 (by simp)
    · have : j = i - 1 := by simpa using q
      omega
  · have hi1 : i - 1 < L.length := by omega
    have p1 := selF_split (f := fun j => s.testBit j) (g := fun j => decide (j = 0 + i)) (h := fun j => s.testBit j && ! decide (j = i)) (fun j => by
      rw [Nat.zero_add]
      by_cases e : j = i
      · subst e; simp [i3]
      · simp [e]) (fun j hj => by
      have : j = i := by simpa using hj
      simp [this]) L 0
    have p2 := selF_split (f := fun j => ((s ^^^ 2 ^ i) ||| 2 ^ (i - 1)).testBit j) (g := fun j => decide (j = 0 + (i - 1))) (h := fun j => s.testBit j && ! decide (j = i)) (fun j => by
      rw [tb', Nat.zero_add, Bool.or_comm]) (fun j hj => by
      have : j = i - 1 := by simpa using hj
      rw [this, c1]; rfl) L 0
    rw [selF_one (j := i) (fun q => rfl) i2] at p1
    rw [selF_one (j := i - 1) (fun q => rfl) hi1] at p2
    rw [List.getElem?_eq_getElem hi1, List.getElem?_eq_getElem i2] at c3
    rw [Option.some.inj c3] at p2
    exact (p2.trans p1.symm).trans s3
