/-! ===== the class's Terms ===== -/
theorem o_s {o : Option Nat} {t : Nat} {A : Prop} {B : Nat → Prop} (h : o = some t) (b : B t) : (o = none → A) ∧ (∀ t', o = some t' → B t') := ⟨fun z => (by rw [h] at z; cases z), fun t' e => (by rw [h] at e; cases e; exact b)⟩
theorem o_n {o : Option Nat} {A : Prop} {B : Nat → Prop} (h : o = none) (a : A) : (o = none → A) ∧ (∀ t', o = some t' → B t') := ⟨fun _ => a, fun t' e => (by rw [h] at e; cases e)⟩
def isTm (σ : am_S) (t : Nat) : Prop := 48 ≤ t ∧ t < gn σ ∧ gk σ t = true
def isAr (σ : am_S) (a n : Nat) : Prop := 48 ≤ a ∧ a < gn σ ∧ gk σ a = false ∧ gl σ a = n
theorem ar_blt {a : Nat} (h : 48 ≤ a) : Nat.blt a am_Lx.1 = false := by
  cases e : Nat.blt a am_Lx.1 with
  | false => rfl
  | true =>
    have h2 : a < 48 := Nat.le_of_ble_eq_true e
    omega
theorem ar_A {σ : am_S} {a n : Nat} (h : isAr σ a n) : am_isA am_Lx σ a := by
  unfold am_isA
  rw [ar_blt h.1]
  exact ⟨h.2.1, h.2.2.1⟩
theorem ar_R {σ : am_S} {a n : Nat} (h : isAr σ a n) : am_isR am_Lx σ a := by
  unfold am_isR
  rw [ar_blt h.1]
  exact ⟨h.2.1, h.2.2.1⟩
theorem ar_L {σ : am_S} {a n : Nat} (h : isAr σ a n) : am_rl am_Lx σ a = n := by
  unfold am_rl
  rw [ar_blt h.1]
  exact h.2.2.2
/-- the object at a name is a Term with these nodes -/
def rep : Nat → am_S → Nat → Tm → Prop
  | 0, _, _, _ => False
  | n + 1, σ, t, x => isTm σ t ∧ ∃ (k a : Nat) (L : List Tm) (b : Nat), x = node k a L ∧ (∀ y ∈ L, wf y) ∧ gS σ t 0 = nI k ∧ gS σ t 1 = nI a ∧ gQ σ t = some b ∧ isAr σ b L.length ∧ gS σ t 3 = nI x.length ∧ gS σ t 4 = nI (vb x) ∧ ∀ i y, L[i]? = some y → ∃ u, gP σ b i = some u ∧ rep n σ u y
def Rp (σ : am_S) (t : Nat) (x : Tm) : Prop := ∃ n, rep n σ t x
theorem rep_mono : ∀ {n m : Nat} {σ : am_S} {t : Nat} {x : Tm}, n ≤ m → rep n σ t x → rep m σ t x
  | 0, _, _, _, _, _, h => False.elim h
  | n + 1, 0, _, _, _, h, _ => by omega
  | n + 1, m + 1, σ, t, x, h, g => by
    obtain ⟨h0, k, a, L, b, h1, h2, h3, h4, h5, h6, h7, h8, h9⟩ := g
    refine ⟨h0, k, a, L, b, h1, h2, h3, h4, h5, h6, h7, h8, fun i y hy => ?_⟩
    obtain ⟨u, u1, u2⟩ := h9 i y hy
    exact ⟨u, u1, rep_mono (by omega) u2⟩
theorem Rp_T {σ : am_S} {t : Nat} {x : Tm} (h : Rp σ t x) : am_isT am_Lx σ t := by
  obtain ⟨n, h⟩ := h
  cases n with
  | zero => exact False.elim h
  | succ n => exact h.1
theorem Rp_wf {σ : am_S} {t : Nat} {x : Tm} (h : Rp σ t x) : wf x := by
  obtain ⟨n, h⟩ := h
  cases n with
  | zero => exact False.elim h
  | succ n =>
    obtain ⟨-, k, a, L, b, h1, h2, -⟩ := h
    rw [h1]
    exact wf_node h2
theorem Rp_out {σ : am_S} {t k a : Nat} {L : List Tm} (hw : ∀ y ∈ L, wf y) (h : Rp σ t (node k a L)) : ∃ b, gS σ t 0 = nI k ∧ gS σ t 1 = nI a ∧ gQ σ t = some b ∧ isAr σ b L.length ∧ gS σ t 3 = nI (node k a L).length ∧ gS σ t 4 = nI (vb (node k a L)) ∧ ∀ i y, L[i]? = some y → ∃ u, gP σ b i = some u ∧ Rp σ u y := by
  obtain ⟨n, h⟩ := h
  cases n with
  | zero => exact False.elim h
  | succ n =>
    obtain ⟨-, k', a', L', b, h1, h2, h3, h4, h5, h6, h7, h8, h9⟩ := h
    obtain ⟨e1, e2, e3⟩ := node_inj hw h2 h1
    subst e1 e2 e3
    refine ⟨b, h3, h4, h5, h6, h7, h8, fun i y hy => ?_⟩
    obtain ⟨u, u1, u2⟩ := h9 i y hy
    exact ⟨u, u1, n, u2⟩
theorem Rp_mk {σ : am_S} {t k a : Nat} {L : List Tm} {b : Nat} (hw : ∀ y ∈ L, wf y) (h0 : isTm σ t) (h3 : gS σ t 0 = nI k) (h4 : gS σ t 1 = nI a) (h5 : gQ σ t = some b) (h6 : isAr σ b L.length) (h7 : gS σ t 3 = nI (node k a L).length) (h8 : gS σ t 4 = nI (vb (node k a L))) (h9 : ∀ i y, L[i]? = some y → ∃ u, gP σ b i = some u ∧ Rp σ u y) : Rp σ t (node k a L) := by
  obtain ⟨N, hN⟩ := fin_max (P := fun i n => ∀ y, L[i]? = some y → ∃ u, gP σ b i = some u ∧ rep n σ u y) (fun i n n' h1 h2 y hy => by
    obtain ⟨u, u1, u2⟩ := h2 y hy
    exact ⟨u, u1, rep_mono h1 u2⟩) L.length (fun i hi => by
    obtain ⟨u, u1, n, u2⟩ := h9 i _ (List.getElem?_eq_getElem hi)
    refine ⟨n, fun y hy => ?_⟩
    rw [List.getElem?_eq_getElem hi] at hy
    cases hy
    exact ⟨u, u1, u2⟩)
  refine ⟨N + 1, h0, k, a, L, b, rfl, hw, h3, h4, h5, h6, h7, h8, fun i y hy => ?_⟩
  have hi : i < L.length := by
    rcases Nat.lt_or_ge i L.length with h | h
    · exact h
    · rw [List.getElem?_eq_none h] at hy
      cases hy
  exact hN i hi y hy
/-- the state has grown, old Terms and their arrays stand as they stood -/
def ext (σ τ : am_S) : Prop := gn σ ≤ gn τ ∧ ∀ n, 48 ≤ n → n < gn σ → gk τ n = gk σ n ∧ gl τ n = gl σ n ∧ gQ τ n = gQ σ n ∧ gS τ n = gS σ n ∧ gP τ n = gP σ n
theorem ext_rfl {σ : am_S} : ext σ σ := ⟨Nat.le_refl _, fun _ _ _ => ⟨rfl, rfl, rfl, rfl, rfl⟩⟩
theorem ext_trans {σ τ υ : am_S} (h : ext σ τ) (g : ext τ υ) : ext σ υ := by
  refine ⟨Nat.le_trans h.1 g.1, fun n a b => ?_⟩
  obtain ⟨h1, h2, h3, h4, h5⟩ := h.2 n a b
  obtain ⟨g1, g2, g3, g4, g5⟩ := g.2 n a (Nat.lt_of_lt_of_le b h.1)
  exact ⟨g1.trans h1, g2.trans h2, g3.trans h3, g4.trans h4, g5.trans h5⟩
theorem ext_fr {S : List (Nat × Nat)} {A J P : List Nat} {σ τ : am_S} (h : fr S A J P σ τ) (hS : ∀ x ∈ S, x.1 < 48) (hP : ∀ x ∈ P, x < 48) : ext σ τ := by
  obtain ⟨h1, h2, h3, h4, h5, h6⟩ := h
  refine ⟨Nat.le_of_eq (by show gn σ = gn τ; unfold gn; rw [h6]), fun n a b => ⟨by unfold gk; rw [h6], by unfold gl; rw [h6], by rw [h5], ?_, ?_⟩⟩
  · funext k
    exact h1 n k fun z => by have := hS _ z; simp at this; omega
  · exact h4 n fun z => by have := hP _ z; omega
theorem isAr_ext {σ τ : am_S} (h : ext σ τ) {a n : Nat} (g : isAr σ a n) : isAr τ a n := by
  obtain ⟨g1, g2, g3, g4⟩ := g
  obtain ⟨h1, h2, -⟩ := h.2 a g1 g2
  exact ⟨g1, Nat.lt_of_lt_of_le g2 h.1, by rw [h1]; exact g3, by rw [h2]; exact g4⟩
theorem rep_ext {σ τ : am_S} (h : ext σ τ) : ∀ {n t : Nat} {x : Tm}, rep n σ t x → rep n τ t x
  | 0, _, _, g => False.elim g
  | n + 1, t, x, g => by
    obtain ⟨⟨p1, p2, p3⟩, k, a, L, b, h1, h2, h3, h4, h5, h6, h7, h8, h9⟩ := g
    obtain ⟨e1, e2, e3, e4, e5⟩ := h.2 t p1 p2
    refine ⟨⟨p1, Nat.lt_of_lt_of_le p2 h.1, by rw [e1]; exact p3⟩, k, a, L, b, h1, h2, by rw [e4]; exact h3, by rw [e4]; exact h4, by rw [e3]; exact h5, isAr_ext h h6, by rw [e4]; exact h7, by rw [e4]; exact h8, fun i y hy => ?_⟩
    obtain ⟨u, u1, u2⟩ := h9 i y hy
    obtain ⟨-, -, -, -, f5⟩ := h.2 b h6.1 h6.2.1
    exact ⟨u, by rw [f5]; exact u1, rep_ext h u2⟩
theorem Rp_ext {σ τ : am_S} (h : ext σ τ) {t : Nat} {x : Tm} (g : Rp σ t x) : Rp τ t x := by
  obtain ⟨n, g⟩ := g
  exact ⟨n, rep_ext h g⟩
/-! comparing -/
theorem loc_bd {k a : Nat} {L : List Tm} (h : loc k a L) : k ≤ 4 ∧ a < 22 := by
  rcases h with ⟨h1, h2, _⟩ | ⟨h1, h2, _⟩ | ⟨h1, h2, _⟩ | ⟨h1, h2, _⟩ <;> omega
theorem x_icmp {σ : am_S} {d : Nat} {Q : Int32 → am_S → Prop} {a b : Nat} (ha : a < 2147483648) (hb : b < 2147483648) (h1 : a < b → Q (-1) σ) (h2 : a = b → Q 0 σ) (h3 : b < a → Q 1 σ) : am_K ri am_Lx IJ6_compare_7cf53 (d + 1) [.int (nI a), .int (nI b)] σ Q := by
  refine vJ6_compare_7cf53 (pk_le b a (fun h => ?_) (fun h => h1 h) rfl rfl hb ha)
  constructor
  · intro z
    refine h3 (Nat.lt_of_le_of_ne h fun e => z ?_)
    rw [e]
  · intro z
    exact h2 ((nI_eq (by omega) (by omega)).mp z)
theorem x_compare : ∀ x, Can x → ∀ (y : Tm) (a b dp d : Nat) (σ : am_S) (Q : Int32 → am_S → Prop), Can y → Rp σ a x → Rp σ b y → dp + x.length ≤ 40 → y.length ≤ 1000 → (tlt x y → ∀ v : Int32, v < 0 → Q v σ) → (x = y → Q 0 σ) → (tlt y x → ∀ v : Int32, 0 < v → Q v σ) → am_K ri am_Lx IX8_compare (d + x.length + 1) [.ref a, .ref b, .int (nI dp)] σ Q := by
  refine can_ind fun k n L hl hc ih y a b dp d σ Q hy ra rb hd hy2 H1 H2 H3 => ?_
  have hwL : ∀ y ∈ L, wf y := fun y hy => Can_wf (hc y hy)
  obtain ⟨k', n', M, rfl, hl', hc'⟩ := Can_out hy
  have hwM : ∀ y ∈ M, wf y := fun y hy => Can_wf (hc' y hy)
  have hb1 := loc_bd hl
  have hb2 := loc_bd hl'
  have hT1 := Rp_T ra
  have hT2 := Rp_T rb
  obtain ⟨ba, a1, a2, a3, a4, a5, a6, a7⟩ := Rp_out hwL ra
  obtain ⟨bb, b1, b2, b3, b4, b5, b6, b7⟩ := Rp_out hwM rb
  have hLn : L.length ≤ L.flatten.length := by
    clear ih hc H1 H2 H3 hl ra a7 a4 a6 a5 hd
    induction L with
    | nil => simp
    | cons x L ihl =>
      have h1 := wf_pos (hwL x List.mem_cons_self)
      have h2 := ihl fun y hy => hwL y (List.mem_cons_of_mem _ hy)
      rw [List.flatten_cons, List.length_append, List.length_cons]
      omega
  have hMn : M.length ≤ M.flatten.length := by
    clear ih hc hl H1 H2 H3 hl' hc' rb b7 b4 b6 b5 hd hy hy2
    induction M with
    | nil => simp
    | cons x M ihl =>
      have h1 := wf_pos (hwM x List.mem_cons_self)
      have h2 := ihl fun y hy => hwM y (List.mem_cons_of_mem _ hy)
      rw [List.flatten_cons, List.length_append, List.length_cons]
      omega
  rw [node_len] at hd hy2
  have hdl : d + (node k n L).length = (d + L.flatten.length) + 1 := by rw [node_len]; omega
  rw [hdl]
  -- the parts
  have loop : ∀ m i, i + m = L.length → k = k' → n = n' → L.length = M.length → (∀ j, j < i → L[j]? = M[j]?) → am_X ri am_Lx IX8_compare (d + L.flatten.length + 1 + 1) 61 [some (.ref a), some (.ref b), some (.int (nI dp)), some (.int (0 : Int32)), some (.int (nI i))] [] σ Q := by
    intro m
    induction m with
    | zero =>
      intro i hi e1 e2 e3 he
      subst e1 e2
      refine vX8_compare_61 ⟨fun z => absurd rfl z, fun _ => ⟨hT1, o_s a3 ⟨ar_A a4, ?_⟩⟩⟩
      rw [ar_L a4]
      refine pk_le L.length i (fun _ => H2 ?_) (fun h => by omega)
      have : L = M := List.ext_getElem? fun j => by
        rcases Nat.lt_or_ge j L.length with h | h
        · exact he j (by omega)
        · rw [List.getElem?_eq_none h, List.getElem?_eq_none (by omega)]
      rw [this]
    | succ m ihm =>
      intro i hi e1 e2 e3 he
      have hiL : i < L.length := by omega
      have hiM : i < M.length := by omega
      obtain ⟨u, u1, u2⟩ := a7 i _ (List.getElem?_eq_getElem hiL)
      obtain ⟨v, v1, v2⟩ := b7 i _ (List.getElem?_eq_getElem hiM)
      have hmemL := List.getElem_mem hiL
      have hmemM := List.getElem_mem hiM
      have l1 := mem_flat_len hmemL
      have l2 := mem_flat_len hmemM
      refine vX8_compare_61 ⟨fun z => absurd rfl z, fun _ => ⟨hT1, o_s a3 ⟨ar_A a4, ?_⟩⟩⟩
      rw [ar_L a4, nI_clamp (n := i) (by omega), nI_1, nI_1]
      refine pk_le L.length i (fun h => by omega) (fun _ => ⟨hT1, o_s a3 ⟨ar_R a4, by rw [ar_L a4]; exact pk_in i _ (by omega), o_s u1 ⟨hT2, o_s b3 ⟨ar_R b4, by rw [ar_L b4]; exact pk_in i _ (by omega), o_s v1 ?_⟩⟩⟩⟩)
      rw [show d + L.flatten.length + 1 = (d + L.flatten.length - L[i].length) + L[i].length + 1 by omega]
      have key : L[i] ≠ M[i] → (tlt (node k n L) (node k' n' M) ↔ tlt L[i] M[i]) ∧ (tlt (node k' n' M) (node k n L) ↔ tlt M[i] L[i]) := by
        intro ne
        subst e1 e2
        constructor
        · rw [tlt_node, e3, flat_at hwL hwM hiL hiM he ne]
          exact ⟨fun h => h.elim (fun h => absurd h (nl_irr _)) (fun h => h.2.2.2), fun h => Or.inr ⟨rfl, rfl, rfl, h⟩⟩
        · rw [tlt_node, e3, flat_at hwM hwL hiM hiL (fun j hj => (he j hj).symm) (Ne.symm ne)]
          exact ⟨fun h => h.elim (fun h => absurd h (nl_irr _)) (fun h => h.2.2.2), fun h => Or.inr ⟨rfl, rfl, rfl, h⟩⟩
      have back : ∀ v : Int32, ¬ v = 0 → Q v σ → am_X ri am_Lx IX8_compare (d + L.flatten.length - L[i].length + L[i].length + 1 + 1) 61 [some (.ref a), some (.ref b), some (.int (nI dp)), some (.int v), some (.int (nI (i + 1)))] [] σ Q := fun v hv hq => vX8_compare_61 ⟨fun _ => hq, fun z => absurd z hv⟩
      refine ih L[i] hmemL M[i] u v (dp + 1) _ σ _ (hc' _ hmemM) u2 v2 (by omega) (by omega) (fun h w hw => ?_) (fun h => ?_) (fun h w hw => ?_)
      · refine back w (fun e => ?_) (H1 ((key fun e => ?_).1.mpr h) w hw)
        · rw [e] at hw
          exact absurd hw (by decide)
        · rw [e] at h
          exact tlt_irr _ h
      · rw [show (d + L.flatten.length - L[i].length) + L[i].length + 1 = d + L.flatten.length + 1 by omega]
        refine ihm (i + 1) (by omega) e1 e2 e3 fun j hj => ?_
        by_cases e : j = i
        · subst e
          rw [List.getElem?_eq_getElem hiL, List.getElem?_eq_getElem hiM, h]
        · exact he j (by omega)
      · refine back w (fun e => ?_) (H3 ((key fun e => ?_).2.mpr h) w hw)
        · rw [e] at hw
          exact absurd hw (by decide)
        · rw [e] at h
          exact tlt_irr _ h
  -- the number of parts
  have third : k = k' → n = n' → am_X ri am_Lx IX8_compare (d + L.flatten.length + 1 + 1) 28 [some (.ref a), some (.ref b), some (.int (nI dp)), some (.int (0 : Int32)), none] [] σ Q := by
    intro e1 e2
    refine vX8_compare_28 ⟨fun z => absurd rfl z, fun _ => ⟨hT1, o_s a3 ⟨ar_A a4, hT2, o_s b3 ⟨ar_A b4, ?_⟩⟩⟩⟩
    rw [ar_L a4, ar_L b4]
    refine x_icmp (d := d + L.flatten.length) (by omega) (by omega) (fun h => ⟨fun _ => ?_, fun z => absurd z (by decide)⟩) (fun h => ⟨fun z => absurd rfl z, fun _ => ⟨fun _ => ?_, fun z => ?_⟩⟩) (fun h => ⟨fun _ => ?_, fun z => absurd z (by decide)⟩)
    · exact H1 (tlt_node.mpr (Or.inl (Or.inr ⟨e1, Or.inr ⟨e2, h⟩⟩))) _ (by decide)
    · exact loop L.length 0 (by omega) e1 e2 h fun j hj => absurd hj (Nat.not_lt_zero _)
    · have : ¬ dp < 40 := fun h => z ((nI_ltI (a := dp) (b := 40) (by omega) (by omega)).mpr h)
      omega
    · exact H3 (tlt_node.mpr (Or.inl (Or.inr ⟨e1.symm, Or.inr ⟨e2.symm, h⟩⟩))) _ (by decide)
  have out : ∀ v : Int32, ¬ v = 0 → Q v σ → am_X ri am_Lx IX8_compare (d + L.flatten.length + 1 + 1) 28 [some (.ref a), some (.ref b), some (.int (nI dp)), some (.int v), none] [] σ Q := fun v hv hq => vX8_compare_28 ⟨fun _ => ⟨fun _ => hq, fun z => absurd z hv⟩, fun z => absurd z hv⟩
  refine vX8_compare ⟨hT1, hT2, ?_⟩
  rw [a1, b1]
  refine x_icmp (d := d + L.flatten.length) (by omega) (by omega) (fun h => ⟨fun _ => out _ (by decide) (H1 (tlt_node.mpr (Or.inl (Or.inl h))) _ (by decide)), fun z => absurd z (by decide)⟩) (fun h => ⟨fun z => absurd rfl z, fun _ => ⟨hT1, hT2, ?_⟩⟩) (fun h => ⟨fun _ => out _ (by decide) (H3 (tlt_node.mpr (Or.inl (Or.inl h))) _ (by decide)), fun z => absurd z (by decide)⟩)
  rw [a2, b2]
  exact x_icmp (d := d + L.flatten.length) (by omega) (by omega) (fun h2 => out _ (by decide) (H1 (tlt_node.mpr (Or.inl (Or.inr ⟨h, Or.inl h2⟩))) _ (by decide))) (fun h2 => third h h2) (fun h2 => out _ (by decide) (H3 (tlt_node.mpr (Or.inl (Or.inr ⟨h.symm, Or.inl h2⟩))) _ (by decide)))
