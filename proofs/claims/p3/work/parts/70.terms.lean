/-! ===== TERMS as lists of their nodes, each node ahead of its parts: (kind, number, how many parts) ===== -/
abbrev Nd : Type := Nat × Nat × Nat
abbrev Tm : Type := List Nd
/-- just n terms, one behind the other -/
def trees : Nat → Tm → Prop
  | n, [] => n = 0
  | n, h :: r => ∃ m, n = m + 1 ∧ trees (m + h.2.2) r
def wf (x : Tm) : Prop := trees 1 x
def node (k a : Nat) (L : List Tm) : Tm := (k, a, L.length) :: L.flatten
theorem trees_app : ∀ {x y : Tm} {n m : Nat}, trees n x → trees m y → trees (n + m) (x ++ y)
  | [], y, n, m, h, g => by
    have e : n = 0 := h
    rw [e, Nat.zero_add]
    exact g
  | a :: x, y, n, m, h, g => by
    obtain ⟨k, rfl, h2⟩ := h
    refine ⟨k + m, by omega, ?_⟩
    have := trees_app h2 g
    rw [show k + m + a.2.2 = k + a.2.2 + m by omega]
    exact this
theorem trees_flat : ∀ {L : List Tm}, (∀ y ∈ L, wf y) → trees L.length L.flatten
  | [], _ => rfl
  | x :: L, h => by
    have := trees_app (h x List.mem_cons_self) (trees_flat fun y hy => h y (List.mem_cons_of_mem _ hy))
    rw [List.flatten_cons, List.length_cons, Nat.add_comm]
    exact this
theorem wf_node {k a : Nat} {L : List Tm} (h : ∀ y ∈ L, wf y) : wf (node k a L) := ⟨0, rfl, by rw [Nat.zero_add]; exact trees_flat h⟩
theorem trees_nil {n : Nat} {x : Tm} (h : trees n x) (hx : x = []) : n = 0 := by
  subst hx
  exact h
theorem trees_cut : ∀ (x : Tm) (n m : Nat), trees (n + m) x → ∃ y z, x = y ++ z ∧ trees n y ∧ trees m z
  | [], n, m, h => by
    have e : n + m = 0 := h
    exact ⟨[], [], rfl, by show n = 0; omega, by show m = 0; omega⟩
  | a :: x, 0, m, h => ⟨[], a :: x, rfl, rfl, by rw [Nat.zero_add] at h; exact h⟩
  | a :: x, n + 1, m, h => by
    obtain ⟨k, e, h2⟩ := h
    obtain ⟨y, z, h3, h4, h5⟩ := trees_cut x (n + a.2.2) m (by rw [show n + a.2.2 + m = k + a.2.2 by omega]; exact h2)
    exact ⟨a :: y, z, by rw [h3]; rfl, ⟨n, rfl, h4⟩, h5⟩
theorem trees_uniq : ∀ {x x' y y' : Tm} {n : Nat}, trees n x → trees n x' → x ++ y = x' ++ y' → x = x' ∧ y = y'
  | [], x', y, y', n, h, g, e => by
    have e0 : n = 0 := h
    cases x' with
    | nil => exact ⟨rfl, e⟩
    | cons b x' =>
      obtain ⟨m, e1, _⟩ := g
      omega
  | a :: x, [], y, y', n, h, g, e => by
    have e0 : n = 0 := g
    obtain ⟨m, e1, _⟩ := h
    omega
  | a :: x, b :: x', y, y', n, h, g, e => by
    obtain ⟨m, e1, h2⟩ := h
    obtain ⟨m', e2, g2⟩ := g
    have e3 : m = m' := by omega
    subst e3
    simp only [List.cons_append, List.cons.injEq] at e
    obtain ⟨e4, e5⟩ := e
    subst e4
    have := trees_uniq h2 g2 e5
    exact ⟨by rw [this.1], this.2⟩
theorem trees_list : ∀ (n : Nat) (x : Tm), trees n x → ∃ L : List Tm, x = L.flatten ∧ L.length = n ∧ ∀ y ∈ L, wf y
  | 0, x, h => by
    cases x with
    | nil => exact ⟨[], rfl, rfl, by simp⟩
    | cons a r =>
      obtain ⟨m, e, _⟩ := h
      omega
  | n + 1, x, h => by
    obtain ⟨y, z, h1, h2, h3⟩ := trees_cut x 1 n (by rw [Nat.add_comm]; exact h)
    obtain ⟨L, l1, l2, l3⟩ := trees_list n z h3
    refine ⟨y :: L, by rw [h1, l1]; rfl, by simp [l2], fun w hw => ?_⟩
    rcases List.mem_cons.mp hw with e | hw
    · rw [e]; exact h2
    · exact l3 w hw
theorem wf_out {x : Tm} (h : wf x) : ∃ k a L, x = node k a L ∧ ∀ y ∈ L, wf y := by
  cases x with
  | nil => exact absurd h (by show ¬ (1 = 0); decide)
  | cons b r =>
    obtain ⟨m, e, h2⟩ := h
    have e0 : m = 0 := by omega
    subst e0
    rw [Nat.zero_add] at h2
    obtain ⟨L, l1, l2, l3⟩ := trees_list _ r h2
    refine ⟨b.1, b.2.1, L, ?_, l3⟩
    unfold node
    rw [l2, l1]
theorem flat_inj : ∀ {L M : List Tm}, (∀ y ∈ L, wf y) → (∀ y ∈ M, wf y) → L.length = M.length → L.flatten = M.flatten → L = M
  | [], [], _, _, _, _ => rfl
  | [], _ :: _, _, _, h, _ => by simp at h
  | _ :: _, [], _, _, h, _ => by simp at h
  | x :: L, y :: M, h1, h2, h3, h4 => by
    rw [List.flatten_cons, List.flatten_cons] at h4
    have := trees_uniq (h1 x List.mem_cons_self) (h2 y List.mem_cons_self) h4
    rw [this.1, flat_inj (fun z hz => h1 z (List.mem_cons_of_mem _ hz)) (fun z hz => h2 z (List.mem_cons_of_mem _ hz)) (by simpa using h3) this.2]
theorem node_inj {k a k' a' : Nat} {L M : List Tm} (h1 : ∀ y ∈ L, wf y) (h2 : ∀ y ∈ M, wf y) (e : node k a L = node k' a' M) : k = k' ∧ a = a' ∧ L = M := by
  unfold node at e
  simp only [List.cons.injEq, Prod.mk.injEq] at e
  exact ⟨e.1.1, e.1.2.1, flat_inj h1 h2 e.1.2.2 e.2⟩
theorem wf_pos {x : Tm} (h : wf x) : 1 ≤ x.length := by
  cases x with
  | nil => exact absurd h (by show ¬ (1 = 0); decide)
  | cons a r => simp
theorem node_len (k a : Nat) (L : List Tm) : (node k a L).length = 1 + L.flatten.length := by
  unfold node
  rw [List.length_cons]
  omega
theorem mem_flat_len : ∀ {L : List Tm} {y : Tm}, y ∈ L → y.length ≤ L.flatten.length
  | x :: L, y, h => by
    rw [List.flatten_cons, List.length_append]
    rcases List.mem_cons.mp h with e | h
    · rw [e]; omega
    · have := mem_flat_len h; omega
theorem part_len {k a : Nat} {L : List Tm} {y : Tm} (h : y ∈ L) : y.length < (node k a L).length := by
  have := mem_flat_len h
  rw [node_len]
  omega
/-- induction over terms -/
theorem tm_ind {P : Tm → Prop} (h : ∀ k a L, (∀ y ∈ L, wf y) → (∀ y ∈ L, P y) → P (node k a L)) : ∀ x, wf x → P x := by
  have : ∀ (n : Nat) (x : Tm), x.length ≤ n → wf x → P x := by
    intro n
    induction n with
    | zero =>
      intro x hx hw
      have := wf_pos hw
      omega
    | succ n ih =>
      intro x hx hw
      obtain ⟨k, a, L, rfl, hL⟩ := wf_out hw
      exact h k a L hL fun y hy => ih y (by have := part_len (k := k) (a := a) hy; omega) (hL y hy)
  exact fun x => this x.length x (Nat.le_refl _)
/-! kind, number and parts of a term -/
def kd (x : Tm) : Nat := match x with
  | h :: _ => h.1
  | [] => 0
def nm (x : Tm) : Nat := match x with
  | h :: _ => h.2.1
  | [] => 0
def pn (x : Tm) : Nat := match x with
  | h :: _ => h.2.2
  | [] => 0
/-! the ORDER -/
def nl (a b : Nd) : Prop := a.1 < b.1 ∨ (a.1 = b.1 ∧ (a.2.1 < b.2.1 ∨ (a.2.1 = b.2.1 ∧ a.2.2 < b.2.2)))
def tlt : Tm → Tm → Prop
  | a :: x, b :: y => nl a b ∨ (a = b ∧ tlt x y)
  | _, _ => False
theorem nl_irr (a : Nd) : ¬ nl a a := by
  unfold nl
  omega
theorem nl_trans {a b c : Nd} (h : nl a b) (g : nl b c) : nl a c := by
  unfold nl at *
  omega
theorem nl_total {a b : Nd} (h : a ≠ b) : nl a b ∨ nl b a := by
  unfold nl
  obtain ⟨a1, a2, a3⟩ := a
  obtain ⟨b1, b2, b3⟩ := b
  simp only [ne_eq, Prod.mk.injEq] at h
  show (a1 < b1 ∨ _) ∨ _
  simp only
  omega
theorem tlt_irr : ∀ x, ¬ tlt x x
  | [], h => h
  | a :: x, h => by
    rcases h with h | ⟨_, h⟩
    · exact nl_irr a h
    · exact tlt_irr x h
theorem tlt_trans : ∀ x y z, tlt x y → tlt y z → tlt x z
  | [], y, _, h, _ => by cases y <;> exact False.elim h
  | _ :: _, [], _, h, _ => False.elim h
  | _ :: _, _ :: _, [], _, h => False.elim h
  | a :: x, b :: y, c :: z, h, g => by
    rcases h with h | ⟨e, h⟩
    · rcases g with g | ⟨e2, g⟩
      · exact Or.inl (nl_trans h g)
      · exact Or.inl (e2 ▸ h)
    · subst e
      rcases g with g | ⟨e2, g⟩
      · exact Or.inl g
      · exact Or.inr ⟨e2, tlt_trans x y z h g⟩
theorem tlt_asym {x y : Tm} (h : tlt x y) : ¬ tlt y x := fun g => tlt_irr x (tlt_trans _ _ _ h g)
theorem trees_total : ∀ {x y : Tm} {n : Nat}, trees n x → trees n y → x ≠ y → tlt x y ∨ tlt y x
  | [], y, n, h, g, ne => by
    cases y with
    | nil => exact absurd rfl ne
    | cons b y =>
      obtain ⟨m, e, _⟩ := g
      have e0 : n = 0 := h
      omega
  | a :: x, [], n, h, g, ne => by
    obtain ⟨m, e, _⟩ := h
    have e0 : n = 0 := g
    omega
  | a :: x, b :: y, n, h, g, ne => by
    by_cases e : a = b
    · subst e
      obtain ⟨m, e1, h2⟩ := h
      obtain ⟨m', e2, g2⟩ := g
      have e3 : m = m' := by omega
      subst e3
      rcases trees_total h2 g2 (fun z => ne (by rw [z])) with h | h
      · exact Or.inl (Or.inr ⟨rfl, h⟩)
      · exact Or.inr (Or.inr ⟨rfl, h⟩)
    · rcases nl_total e with h | h
      · exact Or.inl (Or.inl h)
      · exact Or.inr (Or.inl h)
theorem tlt_total {x y : Tm} (h : wf x) (g : wf y) (ne : x ≠ y) : tlt x y ∨ tlt y x := trees_total h g ne
theorem trees_tlt_app : ∀ {x y s t : Tm} {n : Nat}, trees n x → trees n y → (tlt (x ++ s) (y ++ t) ↔ tlt x y ∨ (x = y ∧ tlt s t))
  | [], y, s, t, n, h, g => by
    have e0 : n = 0 := h
    cases y with
    | nil => simp [tlt]
    | cons b y =>
      obtain ⟨m, e, _⟩ := g
      omega
  | a :: x, [], s, t, n, h, g => by
    obtain ⟨m, e, _⟩ := h
    have e0 : n = 0 := g
    omega
  | a :: x, b :: y, s, t, n, h, g => by
    simp only [List.cons_append, tlt, List.cons.injEq]
    by_cases e : a = b
    · subst e
      obtain ⟨m, e1, h2⟩ := h
      obtain ⟨m', e2, g2⟩ := g
      have e3 : m = m' := by omega
      subst e3
      have := trees_tlt_app (s := s) (t := t) h2 g2
      rw [this]
      constructor
      · rintro (h | ⟨_, h | ⟨h1, h2⟩⟩)
        · exact absurd h (nl_irr a)
        · exact Or.inl (Or.inr ⟨rfl, h⟩)
        · exact Or.inr ⟨⟨rfl, h1⟩, h2⟩
      · rintro ((h | ⟨_, h⟩) | ⟨⟨_, h1⟩, h2⟩)
        · exact Or.inl h
        · exact Or.inr ⟨rfl, Or.inl h⟩
        · exact Or.inr ⟨rfl, Or.inr ⟨h1, h2⟩⟩
    · constructor
      · rintro (h | ⟨h, _⟩)
        · exact Or.inl (Or.inl h)
        · exact absurd h e
      · rintro ((h | ⟨h, _⟩) | ⟨⟨h, _⟩, _⟩)
        · exact Or.inl h
        · exact absurd h e
        · exact absurd h e
theorem tlt_app {x y s t : Tm} (h : wf x) (g : wf y) : tlt (x ++ s) (y ++ t) ↔ tlt x y ∨ (x = y ∧ tlt s t) := trees_tlt_app h g
theorem tlt_node {k a k' a' : Nat} {L M : List Tm} : tlt (node k a L) (node k' a' M) ↔ nl (k, a, L.length) (k', a', M.length) ∨ (k = k' ∧ a = a' ∧ L.length = M.length ∧ tlt L.flatten M.flatten) := by
  unfold node
  simp only [tlt, Prod.mk.injEq]
  constructor
  · rintro (h | ⟨⟨h1, h2, h3⟩, h4⟩)
    · exact Or.inl h
    · exact Or.inr ⟨h1, h2, h3, h4⟩
  · rintro (h | ⟨h1, h2, h3, h4⟩)
    · exact Or.inl h
    · exact Or.inr ⟨⟨h1, h2, h3⟩, h4⟩
/-- the first part in which two rows differ decides -/
theorem flat_at : ∀ {i : Nat} {L M : List Tm}, (∀ y ∈ L, wf y) → (∀ y ∈ M, wf y) → (hL : i < L.length) → (hM : i < M.length) → (∀ j, j < i → L[j]? = M[j]?) → L[i] ≠ M[i] → (tlt L.flatten M.flatten ↔ tlt L[i] M[i])
  | _, [], _, _, _, h, _, _, _ => by simp at h
  | _, _ :: _, [], _, _, _, h, _, _ => by simp at h
  | 0, x :: L, y :: M, h1, h2, _, _, _, ne => by
    rw [List.flatten_cons, List.flatten_cons, tlt_app (h1 x List.mem_cons_self) (h2 y List.mem_cons_self)]
    simp only [List.getElem_cons_zero] at ne ⊢
    constructor
    · rintro (h | ⟨h, _⟩)
      · exact h
      · exact absurd h ne
    · exact Or.inl
  | i + 1, x :: L, y :: M, h1, h2, hL, hM, he, ne => by
    have e0 : x = y := by simpa using he 0 (by omega)
    subst e0
    rw [List.flatten_cons, List.flatten_cons, tlt_app (h1 x List.mem_cons_self) (h1 x List.mem_cons_self)]
    have := flat_at (i := i) (L := L) (M := M) (fun z hz => h1 z (List.mem_cons_of_mem _ hz)) (fun z hz => h2 z (List.mem_cons_of_mem _ hz)) (by simpa using hL) (by simpa using hM) (fun j hj => by simpa using he (j + 1) (by omega)) (by simpa using ne)
    simp only [List.getElem_cons_succ]
    rw [← this]
    constructor
    · rintro (h | ⟨_, h⟩)
      · exact absurd h (tlt_irr x)
      · exact h
    · exact fun h => Or.inr ⟨trivial, h⟩
/-- a bound that serves for all of a few -/
theorem fin_max {P : Nat → Nat → Prop} (hm : ∀ i n n', n ≤ n' → P i n → P i n') : ∀ m, (∀ i, i < m → ∃ n, P i n) → ∃ N, ∀ i, i < m → P i N
  | 0, _ => ⟨0, fun i hi => absurd hi (Nat.not_lt_zero _)⟩
  | m + 1, h => by
    obtain ⟨N, hN⟩ := fin_max hm m fun i hi => h i (by omega)
    obtain ⟨n, hn⟩ := h m (by omega)
    refine ⟨max N n, fun i hi => ?_⟩
    by_cases e : i = m
    · subst e
      exact hm i n _ (Nat.le_max_right _ _) hn
    · exact hm i N _ (Nat.le_max_left _ _) (hN i (by omega))
/-! the bits of the variables -/
def vb : Tm → Nat
  | [] => 0
  | h :: r => (if h.1 = 0 then 2 ^ h.2.1 else 0) ||| vb r
theorem vb_app : ∀ (x y : Tm), vb (x ++ y) = vb x ||| vb y
  | [], y => by simp [vb]
  | h :: x, y => by
    simp only [List.cons_append, vb, vb_app x y, Nat.or_assoc]
/-! what fits a slot -/
def fits (x : Tm) : Prop := x.length ≤ 40 ∧ ∀ h ∈ x, h.2.2 ≤ 8
/-! the form in which terms are kept -/
def loc (k a : Nat) (L : List Tm) : Prop := (k = 0 ∧ a < 22 ∧ L = []) ∨ (k = 1 ∧ a < 5 ∧ L = []) ∨ (k = 2 ∧ a < 3 ∧ 1 ≤ L.length ∧ L.length ≤ 3) ∨ ((k = 3 ∨ k = 4) ∧ a = 0 ∧ 2 ≤ L.length ∧ L.Pairwise (fun x y => ¬ tlt y x) ∧ ∀ y ∈ L, kd y ≠ k)
def canF : Nat → Tm → Prop
  | 0, _ => False
  | n + 1, x => ∃ k a L, x = node k a L ∧ (∀ y ∈ L, wf y) ∧ loc k a L ∧ ∀ y ∈ L, canF n y
def Can (x : Tm) : Prop := ∃ n, canF n x
theorem canF_mono : ∀ {n m : Nat} {x : Tm}, n ≤ m → canF n x → canF m x
  | 0, _, _, _, h => False.elim h
  | n + 1, 0, _, h, _ => by omega
  | n + 1, m + 1, x, h, g => by
    obtain ⟨k, a, L, h1, h2, h3, h4⟩ := g
    exact ⟨k, a, L, h1, h2, h3, fun y hy => canF_mono (by omega) (h4 y hy)⟩
theorem Can_wf {x : Tm} (h : Can x) : wf x := by
  obtain ⟨n, h⟩ := h
  cases n with
  | zero => exact False.elim h
  | succ n =>
    obtain ⟨k, a, L, h1, h2, _⟩ := h
    rw [h1]
    exact wf_node h2
theorem Can_mk {k a : Nat} {L : List Tm} (h : loc k a L) (hL : ∀ y ∈ L, Can y) : Can (node k a L) := by
  obtain ⟨N, hN⟩ := fin_max (P := fun i n => ∀ y, L[i]? = some y → canF n y) (fun i n n' h1 h2 y hy => canF_mono h1 (h2 y hy)) L.length (fun i hi => by
    obtain ⟨n, hn⟩ := hL L[i] (List.getElem_mem hi)
    refine ⟨n, fun y hy => ?_⟩
    rw [List.getElem?_eq_getElem hi] at hy
    cases hy
    exact hn)
  refine ⟨N + 1, k, a, L, rfl, fun y hy => Can_wf (hL y hy), h, fun y hy => ?_⟩
  obtain ⟨i, hi, e⟩ := List.getElem_of_mem hy
  exact hN i hi y (by rw [List.getElem?_eq_getElem hi, e])
theorem Can_out {x : Tm} (h : Can x) : ∃ k a L, x = node k a L ∧ loc k a L ∧ ∀ y ∈ L, Can y := by
  obtain ⟨n, h⟩ := h
  cases n with
  | zero => exact False.elim h
  | succ n =>
    obtain ⟨k, a, L, h1, h2, h3, h4⟩ := h
    exact ⟨k, a, L, h1, h3, fun y hy => ⟨n, h4 y hy⟩⟩
theorem Can_node {k a : Nat} {L : List Tm} (hw : ∀ y ∈ L, wf y) (h : Can (node k a L)) : loc k a L ∧ ∀ y ∈ L, Can y := by
  obtain ⟨k', a', L', h1, h2, h3⟩ := Can_out h
  obtain ⟨e1, e2, e3⟩ := node_inj hw (fun y hy => Can_wf (h3 y hy)) h1
  subst e1 e2 e3
  exact ⟨h2, h3⟩
theorem can_ind {P : Tm → Prop} (h : ∀ k a L, loc k a L → (∀ y ∈ L, Can y) → (∀ y ∈ L, P y) → P (node k a L)) : ∀ x, Can x → P x := by
  intro x hx
  refine tm_ind (P := fun x => Can x → P x) (fun k a L hw ih hc => ?_) x (Can_wf hx) hx
  have := Can_node hw hc
  exact h k a L this.1 this.2 fun y hy => ih y hy (this.2 y hy)
