/-! ===== the reference: matching, the search: what it works on ===== -/
abbrev Gl : Type := (Tm × Tm) ⊕ (Nat × List Tm × List Tm)
def satG (θ : Nat → Tm) (g : Gl) : Prop := match g with
  | .inl q => sub θ q.1 = q.2
  | .inr q => (flK q.1 (q.2.1.map (sub θ))).Perm q.2.2
def SolG (ns : List Nat) (Gs : List Gl) (β : Nat → Option Tm) (M : List Tm) : Prop := M.length = ns.length ∧ gnd M ∧ (∀ i y, β i = some y → i < M.length → M[i]? = some y) ∧ ∀ g ∈ Gs, satG (asg ns M) g
def okP (ns : List Nat) (σ : am_S) (p : Nat) (x : Tm) : Prop := Can x ∧ fits x ∧ seg σ p x ∧ p + x.length ≤ 640 ∧ ∀ a, (vb x).testBit a = true → a ∈ ns
def okT (σ : am_S) (s : Nat) (y : Tm) : Prop := Can y ∧ fits y ∧ vb y = 0 ∧ seg σ s y ∧ s + y.length ≤ 640
def nd (ns : List Nat) (σ : am_S) (g : Gl) (i : Nat) : Prop := match g with
  | .inl q => ∃ p s, gA σ 12 i = nI p ∧ gA σ 13 i = nI s ∧ gA σ 14 i = -1 ∧ okP ns σ p q.1 ∧ okT σ s q.2
  | .inr q => ∃ p s j m X Y, gA σ 12 i = nI p ∧ gA σ 13 i = nI s ∧ gA σ 14 i = nI j ∧ gA σ 15 i = nI m ∧ okP ns σ p X ∧ okT σ s Y ∧ (q.1 = 3 ∨ q.1 = 4) ∧ kd X = q.1 ∧ kd Y = q.1 ∧ j ≤ (pts X).length ∧ q.2.1 = (pts X).take j ∧ m < 2 ^ (pts Y).length ∧ q.2.2 = unm (pts Y) m
def gIn (ns : List Nat) (σ : am_S) : List Gl → Int32 → Nat → Prop
  | [], g, _ => g = -1
  | q :: r, g, G => ∃ i, i < G ∧ g = nI i ∧ nd ns σ q i ∧ gIn ns σ r (gA σ 16 i) i
def mu1 (g : Gl) : Nat := match g with
  | .inl q => 3 * q.1.length
  | .inr q => 3 * q.2.1.flatten.length + 1
def mus : List Gl → Nat
  | [] => 0
  | g :: r => mu1 g + mus r
def unb (n : Nat) (β : Nat → Option Tm) : Nat := ((List.range n).filter (fun i => (β i).isNone)).length
def up (β : Nat → Option Tm) (i : Nat) (y : Tm) : Nat → Option Tm := fun j => if j = i then some y else β j
section MV
variable {σ τ υ : am_S} {ns : List Nat} {P t : Tm} {β : Nat → Option Tm} {Gs : List Gl}
theorem unb_up {n i : Nat} {y : Tm} (hi : i < n) (hb : β i = none) : unb n (up β i y) + 1 = unb n β := by
  have key : ∀ m, ((List.range m).filter (fun j => ((up β i y) j).isNone)).length + (if i < m then 1 else 0) = ((List.range m).filter (fun j => (β j).isNone)).length := by
    intro m
    induction m with
    | zero => rfl
    | succ m ih =>
      rw [List.range_succ, List.filter_append, List.filter_append, List.length_append, List.length_append]
      by_cases e : m = i
      · subst e
        rw [if_neg (by omega)] at ih
        have h1 : (up β m y) m = some y := if_pos rfl
        simp [h1, hb]
        omega
      · have h1 : (up β i y) m = β m := if_neg e
        have h3 : [m].filter (fun j => ((up β i y) j).isNone) = [m].filter (fun j => (β j).isNone) := by
          simp only [List.filter_cons, List.filter_nil, h1]
        rw [h3]
        by_cases h2 : i < m
        · rw [if_pos h2] at ih
          rw [if_pos (by omega)]
          omega
        · rw [if_neg h2] at ih
          rw [if_neg (by omega)]
          omega
  have := key n
  rw [if_pos hi] at this
  exact this
theorem SolG_up {i : Nat} {y : Tm} {M : List Tm} (hi : i < ns.length) (hb : β i = none) : SolG ns Gs (up β i y) M ↔ SolG ns Gs β M ∧ M[i]? = some y := by
  constructor
  · rintro ⟨h1, h2, h3, h4⟩
    refine ⟨⟨h1, h2, fun j z hj hl => ?_, h4⟩, h3 i y (if_pos rfl) (by omega)⟩
    refine h3 j z ?_ hl
    unfold up
    rw [if_neg (fun e => by rw [e, hb] at hj; cases hj)]
    exact hj
  · rintro ⟨⟨h1, h2, h3, h4⟩, h5⟩
    refine ⟨h1, h2, fun j z hj hl => ?_, h4⟩
    unfold up at hj
    by_cases e : j = i
    · rw [if_pos e] at hj
      cases hj
      rw [e]; exact h5
    · rw [if_neg e] at hj
      exact h3 j z hj hl
theorem SolG_cons {g : Gl} {M : List Tm} : SolG ns (g :: Gs) β M ↔ SolG ns Gs β M ∧ satG (asg ns M) g := by
  constructor
  · rintro ⟨h1, h2, h3, h4⟩
    exact ⟨⟨h1, h2, h3, fun q hq => h4 q (List.mem_cons_of_mem _ hq)⟩, h4 g List.mem_cons_self⟩
  · rintro ⟨⟨h1, h2, h3, h4⟩, h5⟩
    refine ⟨h1, h2, h3, fun q hq => ?_⟩
    rcases List.mem_cons.mp hq with e | hq
    · rw [e]; exact h5
    · exact h4 q hq
/-- what the search leaves alone -/
def kW (T G : Nat) (σ τ : am_S) : Prop := (∀ n k, (n, k) ∉ [(0, 16), (0, 27)] → gS τ n k = gS σ n k) ∧ (∀ n, 5 ≤ n → n ∉ [5, 10, 12, 13, 14, 15, 16] → gA τ n = gA σ n) ∧ (∀ i, i < 4 → gA τ 10 i = gA σ 10 i) ∧ (∀ n, 12 ≤ n → n ≤ 16 → ∀ i, i < G → gA τ n i = gA σ n i) ∧ (∀ n, n < 5 → ∀ i, (i < 640 ∨ (16640 ≤ i ∧ i < T)) → gA τ n i = gA σ n i) ∧ τ.2 = σ.2
theorem kW_rfl {T G : Nat} : kW T G σ σ := ⟨fun _ _ _ => rfl, fun _ _ _ => rfl, fun _ _ => rfl, fun _ _ _ _ _ => rfl, fun _ _ _ _ => rfl, rfl⟩
theorem kW_trans {T G : Nat} (h : kW T G σ τ) (g : kW T G τ υ) : kW T G σ υ := ⟨fun n k z => (g.1 n k z).trans (h.1 n k z), fun n a z => (g.2.1 n a z).trans (h.2.1 n a z), fun i z => (g.2.2.1 i z).trans (h.2.2.1 i z), fun n a b i z => (g.2.2.2.1 n a b i z).trans (h.2.2.2.1 n a b i z), fun n a i z => (g.2.2.2.2.1 n a i z).trans (h.2.2.2.2.1 n a i z), g.2.2.2.2.2.trans h.2.2.2.2.2⟩
theorem kW_seg {T G p : Nat} {x : Tm} (h : kW T G σ τ) (hp : p + x.length ≤ 640 ∨ (17280 ≤ p ∧ p + x.length ≤ T)) (g : seg σ p x) : seg τ p x := seg_move (fun a h1 h4 i hi => h.2.2.2.2.1 a (by omega) _ (by omega)) g
theorem okP_kW {T G p : Nat} {x : Tm} (h : okP ns σ p x) (g : kW T G σ τ) : okP ns τ p x := ⟨h.1, h.2.1, kW_seg g (Or.inl h.2.2.2.1) h.2.2.1, h.2.2.2⟩
theorem okT_kW {T G p : Nat} {x : Tm} (h : okT σ p x) (g : kW T G σ τ) : okT τ p x := ⟨h.1, h.2.1, h.2.2.1, kW_seg g (Or.inl h.2.2.2.2) h.2.2.2.1, h.2.2.2.2⟩
/-- goals stay where goals below a bound and the slots stay -/
theorem gIn_mv : ∀ {Gs : List Gl} {g : Int32} {G : Nat}, (∀ n, 12 ≤ n → n ≤ 16 → ∀ i, i < G → gA τ n i = gA σ n i) → (∀ n, n < 5 → ∀ i, i < 640 → gA τ n i = gA σ n i) → gIn ns σ Gs g G → gIn ns τ Gs g G
  | [], _, _, _, _, h => h
  | q :: r, g, G, h1, h2, h => by
    obtain ⟨i, hi, e, hn, hr⟩ := h
    have hP : ∀ {p : Nat} {x : Tm}, okP ns σ p x → okP ns τ p x := fun h => ⟨h.1, h.2.1, seg_move (fun a _ h4 i hi => h2 a (by omega) _ (by have := h.2.2.2.1; omega)) h.2.2.1, h.2.2.2⟩
    have hT : ∀ {p : Nat} {x : Tm}, okT σ p x → okT τ p x := fun h => ⟨h.1, h.2.1, h.2.2.1, seg_move (fun a _ h4 i hi => h2 a (by omega) _ (by have := h.2.2.2.2; omega)) h.2.2.2.1, h.2.2.2.2⟩
    refine ⟨i, hi, e, ?_, ?_⟩
    · cases q with
      | inl q =>
        obtain ⟨p, s, a1, a2, a3, a4, a5⟩ := hn
        exact ⟨p, s, by rw [h1 12 (by omega) (by omega) i hi]; exact a1, by rw [h1 13 (by omega) (by omega) i hi]; exact a2, by rw [h1 14 (by omega) (by omega) i hi]; exact a3, hP a4, hT a5⟩
      | inr q =>
        obtain ⟨p, s, j, m, X, Y, a1, a2, a3, a4, a5, a6, a7⟩ := hn
        exact ⟨p, s, j, m, X, Y, by rw [h1 12 (by omega) (by omega) i hi]; exact a1, by rw [h1 13 (by omega) (by omega) i hi]; exact a2, by rw [h1 14 (by omega) (by omega) i hi]; exact a3, by rw [h1 15 (by omega) (by omega) i hi]; exact a4, hP a5, hT a6, a7⟩
    · rw [h1 16 (by omega) (by omega) i hi]
      exact gIn_mv (fun n a b j hj => h1 n a b j (by omega)) h2 hr
theorem gIn_kW {T G : Nat} {g : Int32} (h : gIn ns σ Gs g G) (k : kW T G σ τ) : gIn ns τ Gs g G := gIn_mv k.2.2.2.1 (fun n a i hi => k.2.2.2.2.1 n a i (Or.inl hi)) h
theorem gIn_le {g : Int32} {G G' : Nat} (h : gIn ns σ Gs g G) (hG : G ≤ G') : gIn ns σ Gs g G' := by
  cases Gs with
  | nil => exact h
  | cons q r =>
    obtain ⟨i, hi, rest⟩ := h
    exact ⟨i, by omega, rest⟩
def bnd (ns : List Nat) (β : Nat → Option Tm) (T : Nat) (σ : am_S) : Prop := ∀ i, i < ns.length → (β i = none ∧ gA σ 10 i = -1) ∨ ∃ y p, β i = some y ∧ gA σ 10 i = nI p ∧ seg σ p y ∧ (p + y.length ≤ 640 ∨ (17280 ≤ p ∧ p + y.length ≤ T)) ∧ Can y ∧ fits y ∧ vb y = 0
def env (ns : List Nat) (β : Nat → Option Tm) (T G : Nat) (σ : am_S) : Prop := mN ns σ ∧ ns.Nodup ∧ bnd ns β T σ ∧ (∀ i, ns.length ≤ i → β i = none) ∧ gS σ 0 4 = nI T ∧ gS σ 0 5 = nI 0 ∧ gS σ 0 7 = nI 0 ∧ gS σ 0 26 = nI G ∧ 17280 ≤ T ∧ T + 41 * unb ns.length β ≤ 17500
theorem env_kW {T G : Nat} (h : env ns β T G σ) (k : kW T G σ τ) : env ns β T G τ := by
  obtain ⟨h1, h2, h3, h3b, h4, h5, h6, h7, h8, h9⟩ := h
  refine ⟨⟨by rw [k.1 0 17 (by decide)]; exact h1.1, h1.2.1, h1.2.2.1, fun i a ha => by rw [k.2.1 9 (by omega) (by decide)]; exact h1.2.2.2 i a ha⟩, h2, fun i hi => ?_, h3b, by rw [k.1 0 4 (by decide)]; exact h4, by rw [k.1 0 5 (by decide)]; exact h5, by rw [k.1 0 7 (by decide)]; exact h6, by rw [k.1 0 26 (by decide)]; exact h7, h8, h9⟩
  have hn4 := h1.2.1
  rw [k.2.2.1 i (by omega)]
  rcases h3 i hi with a | ⟨y, p, a1, a2, a3, a4, a5⟩
  · exact Or.inl a
  · exact Or.inr ⟨y, p, a1, a2, kW_seg k a4 a3, a4, a5⟩
def fndM (P t : Tm) (F : List (List Tm)) (σ : am_S) : Prop := gS σ 0 16 = nI F.length ∧ F.length ≤ 50 ∧ F.Nodup ∧ (∀ M ∈ F, isM P t M ∧ ∀ y ∈ M, fits y) ∧ ∀ i M, F[i]? = some M → ∀ k y, M[k]? = some y → seg σ (640 + 40 * (4 * i + k)) y
def manyM (P t : Tm) (σ : am_S) : Prop := gS σ 0 27 = 1 ∧ mfull P t
def okM (P t : Tm) (F : List (List Tm)) (σ : am_S) : Prop := gS σ 0 27 = 0 ∧ fndM P t F σ
/-- what is found, or (none) that it is too much -/
def preM (P t : Tm) (o : Option (List (List Tm))) (σ : am_S) : Prop := match o with
  | none => manyM P t σ
  | some F => okM P t F σ
def resM (ns : List Nat) (P t : Tm) (o : Option (List (List Tm))) (Gs : List Gl) (β : Nat → Option Tm) (τ : am_S) : Prop := manyM P t τ ∨ ∃ F F', o = some F ∧ okM P t F' τ ∧ ∀ M, M ∈ F' ↔ M ∈ F ∨ SolG ns Gs β M
theorem M_len {M : List Tm} (h : isM P t M) : M.length = (nms (vb P)).length := h.1
/-- one more is found -/
theorem m_foundM {T G d : Nat} {F : List (List Tm)} {Q : Unit → am_S → Prop} (hP : Can P) (hns : ns = nms (vb P)) (he : env ns β T G σ) (hgood : ∀ M, SolG ns [] β M → isM P t M) (hF : okM P t F σ) (H : ∀ τ, kW T G σ τ → resM ns P t (some F) [] β τ → Q () τ) : am_K ru am_Lm IX11_found (d + 42) [.ref 0] σ Q := by
  obtain ⟨e1, e2, e3, e3b, e4, e5, e6, e7, e8, e9⟩ := he
  obtain ⟨f0, f1, f2, f3, f4, f5⟩ := hF
  have hn4 := e1.2.1
  have hβ : ∀ i y, β i = some y → Can y ∧ vb y = 0 := fun i y hy => by
    rcases Nat.lt_or_ge i ns.length with hi | hi
    · rcases e3 i hi with ⟨a, _⟩ | ⟨z, p, a1, _, _, _, a5, _, a7⟩
      · rw [a] at hy; cases hy
      · rw [a1] at hy; cases hy; exact ⟨a5, a7⟩
    · rw [e3b i hi] at hy; cases hy
  have hall := all_bound (t := t) hP hβ fun M h1 h2 h3 => hgood M ⟨by rw [h1, hns], h2, h3, by simp⟩
  rw [← hns] at hall
  -- the matcher
  let M0 : List Tm := (List.range ns.length).map (fun i => (β i).getD [])
  have hM0l : M0.length = ns.length := by simp [M0]
  have hM0 : ∀ i, i < ns.length → ∃ y p, M0[i]? = some y ∧ gA σ 10 i = nI p ∧ seg σ p y ∧ (p + y.length ≤ 640 ∨ (17280 ≤ p ∧ p + y.length ≤ T)) ∧ Can y ∧ fits y ∧ vb y = 0 ∧ β i = some y := fun i hi => by
    rcases e3 i hi with ⟨a, _⟩ | ⟨y, p, a1, a2, a3, a4, a5, a6, a7⟩
    · obtain ⟨z, hz⟩ := hall i hi
      rw [a] at hz; cases hz
    · refine ⟨y, p, ?_, a2, a3, a4, a5, a6, a7, a1⟩
      show ((List.range ns.length).map _)[i]? = _
      rw [List.getElem?_map, List.getElem?_range hi]
      simp [a1]
  have hM0f : ∀ y ∈ M0, fits y ∧ Can y ∧ vb y = 0 := fun y hy => by
    obtain ⟨i, hi, e⟩ := List.getElem_of_mem hy
    obtain ⟨z, p, z1, _, _, _, z5, z6, z7, _⟩ := hM0 i (by omega)
    rw [List.getElem?_eq_getElem hi, e] at z1
    cases z1
    exact ⟨z6, z5, z7⟩
  have hSol : ∀ M, SolG ns [] β M ↔ M = M0 := fun M => by
    constructor
    · rintro ⟨h1, h2, h3, _⟩
      refine List.ext_getElem? fun i => ?_
      rcases Nat.lt_or_ge i ns.length with hi | hi
      · obtain ⟨y, p, y1, _, _, _, _, _, _, y8⟩ := hM0 i hi
        rw [y1, h3 i y y8 (by omega)]
      · rw [List.getElem?_eq_none (by omega), List.getElem?_eq_none (by omega)]
    · intro e
      subst e
      refine ⟨hM0l, fun y hy => ⟨(hM0f y hy).2.1, (hM0f y hy).2.2⟩, fun i y hy hl => ?_, by simp⟩
      obtain ⟨z, p, z1, _, _, _, _, _, _, z8⟩ := hM0 i (by omega)
      rw [hy] at z8; cases z8
      exact z1
  have hM0M := hgood M0 ((hSol M0).mpr rfl)
  have same : M0 ∈ F → Q () σ := fun hin => H σ kW_rfl (Or.inr ⟨F, F, rfl, ⟨f0, f1, f2, f3, f4, f5⟩, fun M => ⟨Or.inl, fun h => by
    rcases h with h | h
    · exact h
    · rw [(hSol M).mp h]; exact hin⟩⟩)
  -- the copies
  have cp : M0 ∉ F → F.length < 50 → ∀ q k τ, k + q = ns.length → kW T G σ τ → gS τ 0 16 = nI F.length → gS τ 0 27 = 0 → gA τ 10 = gA σ 10 → (∀ i M, F[i]? = some M → ∀ k y, M[k]? = some y → seg τ (640 + 40 * (4 * i + k)) y) → (∀ j y, j < k → M0[j]? = some y → seg τ (640 + 40 * (4 * F.length + j)) y) → am_X ru am_Lm IX11_found (d + 42) 85 [some (.ref 0), some (.int (nI k)), none, none] [] τ Q := by
    intro hnew hlt q
    induction q with
    | zero =>
      intro k τ hk g1 g2 g3 g3b g4 g5
      have h17 : gS τ 0 17 = nI ns.length := by rw [g1.1 0 17 (by decide)]; exact e1.1
      refine vX11_found_85 (pk_le ns.length k (fun _ => ?_) (fun h => by omega) h17 rfl (by omega) (by omega))
      have sg : ∀ {p : Nat} {x : Tm}, seg τ p x → seg (wS τ 0 16 (gS τ 0 16 + 1)) p x := fun h => seg_A (σ := τ) gA_wS h
      refine H _ ⟨fun n k z => ?_, g1.2.1, g1.2.2.1, g1.2.2.2.1, g1.2.2.2.2.1, g1.2.2.2.2.2⟩ (Or.inr ⟨F, F ++ [M0], rfl, ⟨by rw [wS_ne (by omega)]; exact g3, ?_, by simp; omega, ?_, fun M hM => ?_, fun i M hM k y hy => sg ?_⟩, fun M => ?_⟩)
      · rw [wS_ne (fun e => z (by rw [e.1, e.2]; simp))]; exact g1.1 n k z
      · rw [wS_at, g2, nI_1]; simp
      · exact List.nodup_append.mpr ⟨f3, by simp, fun a ha b hb => by
          simp at hb
          subst hb
          exact fun e => hnew (e ▸ ha)⟩
      · rcases List.mem_append.mp hM with h | h
        · exact f4 M h
        · rw [List.mem_singleton.mp h]; exact ⟨hM0M, fun y hy => (hM0f y hy).1⟩
      · by_cases e : i = F.length
        · subst e
          rw [List.getElem?_append_right (Nat.le_refl _), Nat.sub_self] at hM
          cases hM
          exact g5 k y (by have := get_lt hy; omega) hy
        · have hi := get_lt hM
          rw [List.length_append, List.length_singleton] at hi
          rw [List.getElem?_append_left (by omega)] at hM
          exact g4 i M hM k y hy
      · rw [List.mem_append, List.mem_singleton, hSol M]
    | succ q ih =>
      intro k τ hk g1 g2 g3 g3b g4 g5
      have h17 : gS τ 0 17 = nI ns.length := by rw [g1.1 0 17 (by decide)]; exact e1.1
      have hkl : k < ns.length := by omega
      obtain ⟨y, p, y1, y2, y3, y4, y5, y6, y7, _⟩ := hM0 k hkl
      have hy40 := y6.1
      refine vX11_found_85 (pk_le ns.length k (fun h => by omega) (fun _ => ⟨pk_in k 4 (by omega), ?_⟩) h17 rfl (by omega) (by omega))
      rw [nI_clamp (n := k) (by omega), g3b, y2, g2, nI_1]
      refine m_matcherAt (d := d + 40) (m_copy (d := d + 40) (Can_wf y5) (kW_seg g1 y4 y3) (by omega) (by omega) (by omega) fun τ2 c1 c2 => ?_)
      have k2 : kW T G τ τ2 := ⟨fun n k _ => by rw [c1.1], fun n h5 _ => c1.2.1 n (by simp; omega), fun i _ => by rw [c1.2.1 10 (by decide)], fun n h1 h2 i _ => by rw [c1.2.1 n (by simp; omega)], fun n _ i hi => c1.2.2.1 n i (by omega), c1.2.2.2.2.2.2⟩
      refine ih (k + 1) τ2 (by omega) (kW_trans g1 k2) (by rw [c1.1]; exact g2) (by rw [c1.1]; exact g3) (by rw [c1.2.1 10 (by decide)]; exact g3b) (fun i M hM kk z hz => ?_) (fun j z hj hz => ?_)
      · have hi := get_lt hM
        have hMm := f4 M (get_mem hM)
        have hzl := (hMm.2 z (get_mem hz)).1
        have hkk := get_lt hz
        rw [M_len hMm.1, ← hns] at hkk
        refine cw_seg c1 ?_ (g4 i M hM kk z hz)
        omega
      · by_cases e : j = k
        · subst e
          rw [y1] at hz; cases hz
          exact c2
        · have hzl := (hM0f z (get_mem hz)).1.1
          exact cw_seg c1 (Or.inl (by omega)) (g5 j z (by omega) hz)
  -- is it there already?
  have inn : ∀ i, i < F.length → (F[i]? ≠ some M0 → am_X ru am_Lm IX11_found (d + 42) 2 [some (.ref 0), some (.int (nI (i + 1))), none, none] [] σ Q) → ∀ q k, k + q = ns.length → (∀ j, j < k → ∀ M, F[i]? = some M → M[j]? = M0[j]?) → am_X ru am_Lm IX11_found (d + 42) 14 [some (.ref 0), some (.int (nI i)), some (.int (1 : Int32)), some (.int (nI k))] [] σ Q := by
    intro i hi hno q
    have hgi := List.getElem?_eq_getElem hi
    have hMm := f4 _ (List.getElem_mem hi)
    have hMl : F[i].length = ns.length := by rw [M_len hMm.1, hns]
    induction q with
    | zero =>
      intro k hk ha
      refine vX11_found_14 (pk_le ns.length k (fun _ => ⟨fun z => absurd z (by decide), fun _ => same ?_⟩) (fun h => by omega) e1.1 rfl (by omega) (by omega))
      have : F[i] = M0 := List.ext_getElem? fun j => by
        rcases Nat.lt_or_ge j ns.length with hj | hj
        · exact ha j (by omega) _ hgi
        · rw [List.getElem?_eq_none (by omega), List.getElem?_eq_none (by omega)]
      rw [← this]
      exact List.getElem_mem hi
    | succ q ih =>
      intro k hk ha
      have hkl : k < ns.length := by omega
      obtain ⟨y, p, y1, y2, y3, y4, y5, y6, y7, _⟩ := hM0 k hkl
      have hkM : k < F[i].length := by omega
      have hz := List.getElem?_eq_getElem hkM
      have hzf := hMm.2 _ (List.getElem_mem hkM)
      have hzc := (hMm.1.2.1 _ (List.getElem_mem hkM)).1
      have hzl := hzf.1
      have hyl := y6.1
      refine vX11_found_14 (pk_le ns.length k (fun h => by omega) (fun _ => ⟨fun z => absurd z (by decide), fun _ => ?_⟩) e1.1 rfl (by omega) (by omega))
      refine m_matcherAt (d := d + 40) ⟨pk_in k 4 (by omega), ?_⟩
      rw [nI_clamp (n := k) (by omega), y2, nI_1]
      have bad : F[i][k] ≠ y → ∀ v : Int32, ¬ v = 0 → (¬ v = 0 → am_X ru am_Lm IX11_found (d + 42) 14 [some (.ref 0), some (.int (nI i)), some (.int (0 : Int32)), some (.int (nI (k + 1)))] [] σ Q) ∧ (v = 0 → am_X ru am_Lm IX11_found (d + 42) 14 [some (.ref 0), some (.int (nI i)), some (.int (1 : Int32)), some (.int (nI (k + 1)))] [] σ Q) := fun hne v hv => by
        have hn2 := hno (fun e => hne (by
          rw [hgi] at e
          have e' := congrArg (fun l : List Tm => l[k]?) (Option.some.inj e)
          rw [hz, y1] at e'
          exact Option.some.inj e'))
        refine ⟨fun _ => ?_, fun z => absurd z hv⟩
        refine vX11_found_14 (pk_le ns.length (k + 1) (fun _ => ⟨fun _ => ?_, fun z => absurd rfl z⟩) (fun _ => ⟨fun _ => ⟨fun _ => ?_, fun z => absurd rfl z⟩, fun z => absurd rfl z⟩) e1.1 rfl (by omega) (by omega)) <;> (rw [nI_1]; exact hn2)
      refine m_ordered 40 _ y σ _ p (d + 1) _ (canF_mono hzl (canF_len _ hzc)) y5 (f5 i _ hgi k _ hz) y3 (by omega) (by omega) (fun h v hv => bad (fun e => ?_) v (fun e => ?_)) (fun h => ⟨fun z => absurd rfl z, fun _ => ih (k + 1) (by omega) fun j hj M hM => ?_⟩) (fun h v hv => bad (fun e => ?_) v (fun e => ?_))
      · rw [e] at h; exact tlt_irr _ h
      · rw [e] at hv; exact absurd hv (by decide)
      · by_cases e : j = k
        · subst e
          rw [hgi] at hM; cases hM
          rw [hz, y1, h]
        · exact ha j (by omega) M hM
      · rw [e] at h; exact tlt_irr _ h
      · rw [e] at hv; exact absurd hv (by decide)
  have out : ∀ q i, i + q = F.length → (∀ j, j < i → F[j]? ≠ some M0) → am_X ru am_Lm IX11_found (d + 42) 2 [some (.ref 0), some (.int (nI i)), none, none] [] σ Q := by
    intro q
    induction q with
    | zero =>
      intro i hi ha
      have hnew : M0 ∉ F := fun hin => by
        obtain ⟨j, hj, e⟩ := List.getElem_of_mem hin
        exact ha j (by omega) (by rw [List.getElem?_eq_getElem hj, e])
      refine vX11_found_2 (pk_le F.length i (fun _ => ?_) (fun h => by omega) f1 rfl (by omega) (by omega))
      rw [f1]
      refine ⟨fun hne => cp hnew (Nat.lt_of_le_of_ne f2 fun z => hne (by rw [z]; rfl)) ns.length 0 σ (by omega) kW_rfl f1 f0 rfl f5 (fun j y hj => absurd hj (Nat.not_lt_zero _)), fun h50 => ⟨Or.inr rfl, H _ ⟨fun n k z => ?_, fun _ _ _ => rfl, fun _ _ => rfl, fun _ _ _ _ _ => rfl, fun _ _ _ _ => rfl, rfl⟩ (Or.inl ⟨wS_at _ _ _ _, F ++ [M0], ?_, ?_, fun M hM => ?_⟩)⟩⟩
      · rw [wS_ne (fun e => z (by rw [e.1, e.2]; simp))]
      · exact List.nodup_append.mpr ⟨f3, by simp, fun a ha b hb => by
          simp at hb
          subst hb
          exact fun e => hnew (e ▸ ha)⟩
      · have := (nI_eq (by omega) (by omega)).mp (show nI F.length = nI 50 from h50)
        rw [List.length_append, List.length_singleton]
        omega
      · rcases List.mem_append.mp hM with h | h
        · exact (f4 M h).1
        · rw [List.mem_singleton.mp h]; exact hM0M
    | succ q ih =>
      intro i hi ha
      refine vX11_found_2 (pk_le F.length i (fun h => by omega) (fun _ => ?_) f1 rfl (by omega) (by omega))
      refine inn i (by omega) (fun hne => ih (i + 1) (by omega) fun j hj => ?_) ns.length 0 (by omega) fun j hj => absurd hj (Nat.not_lt_zero _)
      by_cases e : j = i
      · subst e; exact hne
      · exact ha j (by omega)
  exact vX11_found (out F.length 0 (by omega) fun j hj => absurd hj (Nat.not_lt_zero _))
end MV
