/-! ===== SYSTEMS: the mathematics ===== -/
noncomputable def dc (p : Prop) : Bool := @decide p (Classical.propDecidable p)
theorem dc_iff {p : Prop} : dc p = true ↔ p := by
  unfold dc
  exact @decide_eq_true_iff p (Classical.propDecidable p)
theorem dc_f {p : Prop} (h : ¬ p) : dc p = false := by
  cases e : dc p with
  | false => rfl
  | true => exact absurd (dc_iff.mp e) h
def sm : List Nat → Nat
  | [] => 0
  | a :: r => a + sm r
theorem sm_app (x y : List Nat) : sm (x ++ y) = sm x + sm y := by
  induction x with
  | nil => simp [sm]
  | cons a r ih => simp [sm, ih]; omega
def dot (a : Nat → Int) : Nat → List Nat → Int
  | _, [] => 0
  | j, v :: r => a j * v + dot a (j + 1) r
theorem dot_app (a : Nat → Int) (x y : List Nat) : ∀ j, dot a j (x ++ y) = dot a j x + dot a (j + x.length) y := by
  induction x with
  | nil => intro j; simp [dot]
  | cons v r ih =>
    intro j
    simp only [List.cons_append, dot, ih, List.length_cons]
    rw [show j + 1 + r.length = j + (r.length + 1) by omega]
    omega
theorem dot_snoc (a : Nat → Int) (x : List Nat) (c : Nat) : dot a 0 (x ++ [c]) = dot a 0 x + a x.length * c := by
  rw [dot_app]
  simp [dot]
theorem dot_zero (a : Nat → Int) (n : Nat) : ∀ j, dot a j (List.replicate n 0) = 0 := by
  induction n with
  | zero => intro j; rfl
  | succ n ih =>
    intro j
    rw [List.replicate_succ]
    simp [dot, ih]
theorem dot_bd {a : Nat → Int} {B : Int} (h0 : 0 ≤ B) (x : List Nat) : ∀ j, (∀ i, j ≤ i → i < j + x.length → -B ≤ a i ∧ a i ≤ B) → -(B * sm x) ≤ dot a j x ∧ dot a j x ≤ B * sm x := by
  induction x with
  | nil => intro j _; simp [dot, sm]
  | cons v r ih =>
    intro j h
    have h1 := h j (Nat.le_refl _) (by simp)
    have h2 := ih (j + 1) (fun i a b => h i (by omega) (by simp at *; omega))
    have hv : (0 : Int) ≤ (v : Int) := Int.natCast_nonneg v
    have h3 : a j * v ≤ B * v := Int.mul_le_mul_of_nonneg_right h1.2 hv
    have h4 : -(B * v) ≤ a j * v := by
      have := Int.mul_le_mul_of_nonneg_right h1.1 hv
      rw [Int.neg_mul] at this
      exact this
    simp only [dot, sm]
    rw [Int.natCast_add, Int.mul_add]
    omega
/-- the least and the greatest number (or 0) of some -/
def lo (a : Nat → Int) : Nat → Nat → Int
  | _, 0 => 0
  | k, n + 1 => min (a k) (lo a (k + 1) n)
def hi (a : Nat → Int) : Nat → Nat → Int
  | _, 0 => 0
  | k, n + 1 => max (a k) (hi a (k + 1) n)
theorem lo_le (a : Nat → Int) : ∀ (n k : Nat), lo a k n ≤ 0
  | 0, _ => Int.le_refl _
  | n + 1, k => by
    have := lo_le a n (k + 1)
    simp only [lo]
    omega
theorem hi_ge (a : Nat → Int) : ∀ (n k : Nat), 0 ≤ hi a k n
  | 0, _ => Int.le_refl _
  | n + 1, k => by
    have := hi_ge a n (k + 1)
    simp only [hi]
    omega
theorem lo_dot (a : Nat → Int) : ∀ (x : List Nat) (k : Nat), (sm x : Int) * lo a k x.length ≤ dot a k x ∧ dot a k x ≤ (sm x : Int) * hi a k x.length
  | [], k => by simp [sm, dot]
  | v :: x, k => by
    have h := lo_dot a x (k + 1)
    have h1 : lo a k (x.length + 1) ≤ a k := by simp only [lo]; omega
    have h2 : lo a k (x.length + 1) ≤ lo a (k + 1) x.length := by simp only [lo]; omega
    have h3 : a k ≤ hi a k (x.length + 1) := by simp only [hi]; omega
    have h4 : hi a (k + 1) x.length ≤ hi a k (x.length + 1) := by simp only [hi]; omega
    have hv : (0 : Int) ≤ (v : Int) := Int.natCast_nonneg v
    have hs : (0 : Int) ≤ (sm x : Int) := Int.natCast_nonneg _
    have m1 := Int.mul_le_mul_of_nonneg_right h1 hv
    have m2 := Int.mul_le_mul_of_nonneg_left h2 hs
    have m3 := Int.mul_le_mul_of_nonneg_right h3 hv
    have m4 := Int.mul_le_mul_of_nonneg_left h4 hs
    simp only [sm, dot, List.length_cons]
    rw [Int.natCast_add, Int.add_mul, Int.add_mul, Int.mul_comm (v : Int), Int.mul_comm (v : Int)]
    omega
theorem lo_dot2 (a : Nat → Int) (x : List Nat) (k n l : Nat) (hl : x.length = n) (hs : sm x ≤ l) : (l : Int) * lo a k n ≤ dot a k x ∧ dot a k x ≤ (l : Int) * hi a k n := by
  have h := lo_dot a x k
  rw [hl] at h
  have h1 := Int.mul_le_mul_of_nonpos_right (Int.ofNat_le.mpr hs) (lo_le a n k)
  have h2 := Int.mul_le_mul_of_nonneg_right (Int.ofNat_le.mpr hs) (hi_ge a n k)
  exact ⟨Int.le_trans h1 h.1, Int.le_trans h.2 h2⟩
theorem lo_bd {a : Nat → Int} {B : Int} (h0 : 0 ≤ B) : ∀ (n k : Nat), (∀ i, k ≤ i → i < k + n → -B ≤ a i ∧ a i ≤ B) → -B ≤ lo a k n ∧ hi a k n ≤ B
  | 0, k, _ => by simp only [lo, hi]; omega
  | n + 1, k, h => by
    have h1 := lo_bd h0 n (k + 1) fun i a b => h i (by omega) (by omega)
    have h2 := h k (Nat.le_refl _) (by omega)
    simp only [lo, hi]
    omega
/-- one vector below another -/
def vle : List Nat → List Nat → Prop
  | [], [] => True
  | a :: x, b :: y => a ≤ b ∧ vle x y
  | _, _ => False
theorem vle_rfl : ∀ x, vle x x
  | [] => trivial
  | _ :: x => ⟨Nat.le_refl _, vle_rfl x⟩
theorem vle_len : ∀ {x y}, vle x y → x.length = y.length
  | [], [], _ => rfl
  | _ :: _, _ :: _, h => congrArg (· + 1) (vle_len h.2)
  | [], _ :: _, h => False.elim h
  | _ :: _, [], h => False.elim h
theorem vle_trans : ∀ {x y z}, vle x y → vle y z → vle x z
  | [], [], [], _, _ => trivial
  | _ :: _, _ :: _, _ :: _, h, g => ⟨Nat.le_trans h.1 g.1, vle_trans h.2 g.2⟩
  | [], _ :: _, _, h, _ => False.elim h
  | _ :: _, [], _, h, _ => False.elim h
  | [], [], _ :: _, _, g => False.elim g
  | _ :: _, _ :: _, [], _, g => False.elim g
theorem vle_sm : ∀ {x y}, vle x y → sm x ≤ sm y
  | [], [], _ => Nat.le_refl _
  | _ :: _, _ :: _, h => Nat.add_le_add h.1 (vle_sm h.2)
  | [], _ :: _, h => False.elim h
  | _ :: _, [], h => False.elim h
theorem vle_eq : ∀ {x y}, vle x y → sm x = sm y → x = y
  | [], [], _, _ => rfl
  | a :: x, b :: y, h, e => by
    have := vle_sm h.2
    have h1 := h.1
    simp only [sm] at e
    rw [show a = b by omega, vle_eq h.2 (by omega)]
  | [], _ :: _, h, _ => False.elim h
  | _ :: _, [], h, _ => False.elim h
theorem vle_iff : ∀ {x y : List Nat}, x.length = y.length → (vle x y ↔ ∀ j, j < x.length → x.getD j 0 ≤ y.getD j 0)
  | [], [], _ => ⟨fun _ j h => absurd h (Nat.not_lt_zero _), fun _ => trivial⟩
  | a :: x, b :: y, e => by
    have ih := vle_iff (x := x) (y := y) (by simpa using e)
    constructor
    · intro h j hj
      cases j with
      | zero => exact h.1
      | succ j => exact ih.mp h.2 j (by simpa using hj)
    · intro h
      exact ⟨h 0 (by simp), ih.mpr fun j hj => h (j + 1) (by simpa using hj)⟩
  | [], _ :: _, e => by simp at e
  | _ :: _, [], e => by simp at e
/-- solves the system, is not empty, is within the span -/
def isSol (R U S : Nat) (A : Nat → Nat → Int) (x : List Nat) : Prop := x.length = U ∧ sm x ≤ S ∧ 0 < sm x ∧ ∀ r, r < R → dot (A r) 0 x = 0
def isMin (R U S : Nat) (A : Nat → Nat → Int) (x : List Nat) : Prop := isSol R U S A x ∧ ∀ y, isSol R U S A y → vle y x → y = x
/-- vectors in their order -/
def en : Nat → Nat → List (List Nat)
  | 0, _ => [[]]
  | n + 1, l => (List.range' 0 (l + 1)).flatMap (fun v => (en n (l - v)).map (v :: ·))
theorem en_mem : ∀ {n l : Nat} {x : List Nat}, x ∈ en n l ↔ x.length = n ∧ sm x ≤ l
  | 0, l, x => by
    simp only [en, List.mem_singleton]
    constructor
    · rintro rfl; exact ⟨rfl, Nat.zero_le _⟩
    · rintro ⟨h, _⟩; exact List.length_eq_zero_iff.mp h
  | n + 1, l, x => by
    simp only [en, List.mem_flatMap, List.mem_map, List.mem_range'_1]
    constructor
    · rintro ⟨v, hv, y, hy, rfl⟩
      have := en_mem.mp hy
      exact ⟨by simp [this.1], by simp only [sm]; omega⟩
    · rintro ⟨h1, h2⟩
      cases x with
      | nil => simp at h1
      | cons v y =>
        simp only [sm] at h2
        exact ⟨v, by omega, y, en_mem.mpr ⟨by simpa using h1, by omega⟩, rfl⟩
/-- one stands ahead of the other -/
def lxl : List Nat → List Nat → Prop
  | a :: y, p :: q => a < p ∨ (a = p ∧ lxl y q)
  | _, _ => False
theorem lxl_app : ∀ (p : List Nat) {y : List Nat} {v : Nat}, p.length < y.length → lxl y (p ++ [v]) → lxl y p ∨ ∃ a r, y = p ++ a :: r ∧ a < v
  | [], y, v, hl, h => by
    cases y with
    | nil => simp at hl
    | cons a r =>
      rcases h with h | ⟨_, h⟩
      · exact Or.inr ⟨a, r, rfl, h⟩
      · cases r <;> exact False.elim h
  | b :: p, y, v, hl, h => by
    cases y with
    | nil => simp at hl
    | cons a r =>
      rcases h with h | ⟨e, h⟩
      · exact Or.inl (Or.inl h)
      · rcases lxl_app p (by simpa using hl) h with h | ⟨c, s, h1, h2⟩
        · exact Or.inl (Or.inr ⟨e, h⟩)
        · exact Or.inr ⟨c, s, by rw [e, h1]; rfl, h2⟩
theorem lxl_irr : ∀ (p s : List Nat), ¬ lxl (p ++ s) p
  | [], s, h => by cases s <;> exact h
  | a :: p, s, h => by
    rcases h with h | ⟨_, h⟩
    · exact Nat.lt_irrefl _ h
    · exact lxl_irr p s h
theorem lxl_of : ∀ (p : List Nat) {y : List Nat} {v : Nat}, lxl y p ∨ (∃ a r, y = p ++ a :: r ∧ a < v) → lxl y (p ++ [v])
  | [], y, v, h => by
    rcases h with h | ⟨a, r, rfl, h⟩
    · cases y <;> exact False.elim h
    · exact Or.inl h
  | b :: p, y, v, h => by
    rcases h with h | ⟨a, r, rfl, h⟩
    · cases y with
      | nil => exact False.elim h
      | cons c y =>
        rcases h with h | ⟨e, h⟩
        · exact Or.inl h
        · exact Or.inr ⟨e, lxl_of p (Or.inl h)⟩
    · exact Or.inr ⟨rfl, lxl_of p (Or.inr ⟨a, r, rfl, h⟩)⟩
theorem lxl_snoc {p y : List Nat} {v : Nat} (h : p.length < y.length) : lxl y (p ++ [v]) ↔ lxl y p ∨ ∃ a r, y = p ++ a :: r ∧ a < v := ⟨lxl_app p h, lxl_of p⟩
theorem lxl_le : ∀ {x y : List Nat}, vle y x → y ≠ x → lxl y x
  | [], [], _, n => absurd rfl n
  | b :: x, a :: y, h, n => by
    by_cases e : a = b
    · exact Or.inr ⟨e, lxl_le h.2 fun z => n (by rw [e, z])⟩
    · exact Or.inl (Nat.lt_of_le_of_ne h.1 e)
  | [], _ :: _, h, _ => False.elim h
  | _ :: _, [], h, _ => False.elim h
section DIO
variable {R U S : Nat} {A : Nat → Nat → Int}
theorem min_below : ∀ (n : Nat) {y : List Nat}, sm y ≤ n → isSol R U S A y → ∃ z, isMin R U S A z ∧ vle z y
  | 0, y, h, hs => absurd hs.2.2.1 (by omega)
  | n + 1, y, h, hs => by
    by_cases hm : isMin R U S A y
    · exact ⟨y, hm, vle_rfl y⟩
    · have : ∃ w, isSol R U S A w ∧ vle w y ∧ w ≠ y := Classical.byContradiction fun c => hm ⟨hs, fun w h1 h2 => Classical.byContradiction fun h3 => c ⟨w, h1, h2, h3⟩⟩
      obtain ⟨w, h1, h2, h3⟩ := this
      have hlt : sm w < sm y := Nat.lt_of_le_of_ne (vle_sm h2) fun e => h3 (vle_eq h2 e)
      obtain ⟨z, hz1, hz2⟩ := min_below n (by omega) h1
      exact ⟨z, hz1, vle_trans hz2 h2⟩
/-- the least solutions that begin so, in their order -/
noncomputable def flt (R U S : Nat) (A : Nat → Nat → Int) (p : List Nat) (n l : Nat) : List (List Nat) := ((en n l).map (p ++ ·)).filter (fun x => dc (isMin R U S A x))
noncomputable def fltF (R U S : Nat) (A : Nat → Nat → Int) (p : List Nat) (n l v m : Nat) : List (List Nat) := (List.range' v m).flatMap (fun w => flt R U S A (p ++ [w]) n (l - w))
theorem flt_succ (p : List Nat) (n l : Nat) : flt R U S A p (n + 1) l = fltF R U S A p n l 0 (l + 1) := by
  unfold flt fltF
  rw [en]
  generalize List.range' 0 (l + 1) = L
  induction L with
  | nil => rfl
  | cons a r ih =>
    rw [List.flatMap_cons, List.flatMap_cons, List.map_append, List.filter_append, ih]
    congr 2
    rw [List.map_map]
    apply List.map_congr_left
    intro x _
    simp
theorem fltF_succ (p : List Nat) (n l v m : Nat) : fltF R U S A p n l v (m + 1) = flt R U S A (p ++ [v]) n (l - v) ++ fltF R U S A p n l (v + 1) m := by
  unfold fltF
  rw [List.range'_succ, List.flatMap_cons]
theorem flt_mem {p : List Nat} {n l : Nat} {x : List Nat} : x ∈ flt R U S A p n l ↔ isMin R U S A x ∧ ∃ r, x = p ++ r ∧ r.length = n ∧ sm r ≤ l := by
  unfold flt
  rw [List.mem_filter, dc_iff, List.mem_map]
  constructor
  · rintro ⟨⟨r, h1, h2⟩, h3⟩
    exact ⟨h3, r, h2.symm, en_mem.mp h1⟩
  · rintro ⟨h, r, h1, h2⟩
    exact ⟨⟨r, en_mem.mpr h2, h1.symm⟩, h⟩
theorem flt_nil {p : List Nat} {n l : Nat} (h : ∀ r : List Nat, r.length = n → sm r ≤ l → ¬ isMin R U S A (p ++ r)) : flt R U S A p n l = [] := by
  apply List.eq_nil_iff_forall_not_mem.mpr
  intro x hx
  obtain ⟨h1, r, h2, h3, h4⟩ := flt_mem.mp hx
  exact h r h3 h4 (h2 ▸ h1)
theorem fltF_nil {p : List Nat} {n l v m : Nat} (h : ∀ w, v ≤ w → w < v + m → ∀ r : List Nat, r.length = n → sm r ≤ l - w → ¬ isMin R U S A (p ++ [w] ++ r)) : fltF R U S A p n l v m = [] := by
  induction m generalizing v with
  | zero => rfl
  | succ m ih =>
    rw [fltF_succ, flt_nil (h v (Nat.le_refl _) (by omega)), ih fun w a b => h w (by omega) (by omega)]
    rfl
/-- the list that both sides come to -/
noncomputable def sols (R U S : Nat) (A : Nat → Nat → Int) : List (List Nat) := flt R U S A [] U S
end DIO
