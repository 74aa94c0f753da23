/-! ===== the reference: fits, store, variablesIn, bitsOf ===== -/
section ST
variable {σ τ : am_S}
theorem trees_le : ∀ {x : Tm} {n : Nat}, trees n x → n ≤ x.length ∧ ∀ h ∈ x, h.2.2 ≤ x.length
  | [], n, h => by
    have e : n = 0 := h
    exact ⟨by simp [e], by simp⟩
  | a :: x, n, h => by
    obtain ⟨m, rfl, h2⟩ := h
    obtain ⟨h3, h4⟩ := trees_le h2
    refine ⟨by simp; omega, fun b hb => ?_⟩
    rcases List.mem_cons.mp hb with e | hb
    · rw [e]; simp; omega
    · have := h4 b hb; simp; omega
theorem seg_get : ∀ {x : Tm} {p i : Nat} {h : Nd}, seg σ p x → x[i]? = some h → gA σ 1 (p + i) = nI h.1 ∧ gA σ 2 (p + i) = nI h.2.1 ∧ gA σ 3 (p + i) = nI h.2.2
  | [], _, _, _, _, g => by simp at g
  | a :: x, p, 0, h, s, g => by
    simp at g
    subst g
    exact ⟨s.1, s.2.1, s.2.2.1⟩
  | a :: x, p, i + 1, h, s, g => by
    have := seg_get (i := i) s.2.2.2.2 (by simpa using g)
    rw [show p + (i + 1) = p + 1 + i by omega]
    exact this
theorem m_fits {p b d : Nat} {v : Int32} {x : Tm} {Q : Int32 → am_S → Prop} (hw : wf x) (hb : gS σ 0 5 = nI b) (hb1 : b ≤ 1) (hp : b = 0 → v = nI p ∧ p + x.length ≤ 70000 ∧ seg σ p x) (h1 : b = 0 → fits x → Q 1 σ) (h0 : (b = 0 → ¬ fits x) → Q 0 σ) : am_K ri am_Lm IX11_fits (d + 1) [.ref 0, .int v] σ Q := by
  have bad : (b = 0 → ¬ fits x) → ∀ w, am_X ri am_Lm IX11_fits (d + 1) 26 [some (.ref 0), some (.int v), some (.int (0 : Int32)), some (.int w)] [] σ Q := fun h w => vX11_fits_26 ⟨fun _ => ⟨Or.inl rfl, h0 h⟩, fun z => absurd rfl z⟩
  refine vX11_fits ?_
  rw [hb]
  refine And.symm (pk_eq b 0 (fun e => ?_) (fun e => bad (fun z => absurd z e) _))
  obtain ⟨rfl, hp1, hs⟩ := hp e
  have hpos := wf_pos hw
  have e4 := (seg_kd hw hs).2.2.2
  have htl := trees_le (n := 1) hw
  have loop : ∀ m i, i + m = x.length → x.length ≤ 40 → (∀ j h, j < i → x[j]? = some h → h.2.2 ≤ 8) → am_X ri am_Lm IX11_fits (d + 1) 26 [some (.ref 0), some (.int (nI p)), some (.int (1 : Int32)), some (.int (nI (p + i)))] [] σ Q := by
    intro m
    induction m with
    | zero =>
      intro i hi hl hg
      refine vX11_fits_26 ⟨fun z => absurd z (by decide), fun _ => ⟨vp_in_nI (by omega) (by decide), ?_⟩⟩
      rw [nI_clamp (n := p) (by omega), e4, nI_add]
      refine pk_le (p + x.length) (p + i) (fun _ => ⟨Or.inr rfl, h1 e ⟨hl, fun h hh => ?_⟩⟩) (fun h => by omega)
      obtain ⟨j, hj, ej⟩ := List.getElem_of_mem hh
      exact hg j h (by omega) (by rw [List.getElem?_eq_getElem hj, ej])
    | succ m ih =>
      intro i hi hl hg
      have hiL : i < x.length := by omega
      have s3 := (seg_get hs (List.getElem?_eq_getElem hiL)).2.2
      have hle := htl.2 _ (List.getElem_mem hiL)
      refine vX11_fits_26 ⟨fun z => absurd z (by decide), fun _ => ⟨vp_in_nI (by omega) (by decide), ?_⟩⟩
      rw [nI_clamp (n := p) (by omega), e4, nI_add, nI_clamp (n := p + i) (by omega), s3, nI_1]
      refine pk_le (p + x.length) (p + i) (fun h => by omega) (fun _ => ⟨vp_in_nI (by omega) (by decide), pk_lt 8 x[i].2.2 (fun h => bad (fun _ z => ?_) _) (fun h => ?_)⟩)
      · have := z.2 _ (List.getElem_mem hiL)
        omega
      · refine ih (i + 1) (by omega) hl fun j h' hj hh => ?_
        by_cases ej : j = i
        · subst ej
          rw [List.getElem?_eq_getElem hiL] at hh
          cases hh
          exact h
        · exact hg j h' (by omega) hh
  refine ⟨vp_in_nI (by omega) (by decide), ?_⟩
  rw [nI_clamp (n := p) (by omega), e4]
  exact pk_lt 40 x.length (fun h => bad (fun _ z => by have := z.1; omega) _) (fun h => loop x.length 0 (by omega) h (fun j _ hj => absurd hj (Nat.not_lt_zero _)))
/-- a term has come into a slot -/
def sto (s : Nat) (x : Tm) (σ τ : am_S) : Prop := gS τ = gS σ ∧ (∀ n, n ∉ [1, 2, 3, 4, 7] → gA τ n = gA σ n) ∧ (∀ n, 1 ≤ n → n ≤ 4 → ∀ i, ¬ (40 * s ≤ i ∧ i < 40 * s + x.length) → gA τ n i = gA σ n i) ∧ (∀ i, i ≠ s → gA τ 7 i = gA σ 7 i) ∧ gA τ 7 s = 1 ∧ seg τ (40 * s) x ∧ τ.2 = σ.2
theorem m_store {s b d : Nat} {v : Int32} {x : Tm} {Q : Int32 → am_S → Prop} (hs : s < 16) (hw : wf x) (hb : gS σ 0 5 = nI b) (hb1 : b ≤ 1) (hp : b = 0 → ∃ p, v = nI p ∧ 640 ≤ p ∧ p + x.length ≤ 70000 ∧ seg σ p x) (h1 : b = 0 → fits x → ∀ τ, sto s x σ τ → Q (nI x.length) τ) (h0 : (b = 0 → ¬ fits x) → Q (-4) σ) : am_K ri am_Lm IX11_store (d + 2) [.ref 0, .int v, .int (nI s)] σ Q := by
  by_cases e : b = 0
  · obtain ⟨p, rfl, p1, p2, p3⟩ := hp e
    have hpos := wf_pos hw
    refine vX11_store (m_fits (d := d) hw hb hb1 (fun _ => ⟨rfl, p2, p3⟩) (fun _ hf => ⟨fun _ => ?_, fun z => absurd z (by decide)⟩) (fun h => ⟨fun z => absurd rfl z, fun _ => h0 h⟩))
    have hl := hf.1
    have em : (40 : Int32) * nI s = nI (40 * s) := pk_mul 40 s
    rw [em]
    refine m_copy (d := d) hw p3 p2 (by omega) (Or.inr (by omega)) (fun τ c1 c2 => ⟨vp_in_nI hs (by decide), vp_in_nI (by omega) (by decide), ?_⟩)
    have c3 := cw_seg c1 (p := p) (x := x) (Or.inr (by omega)) p3
    rw [nI_clamp (n := p) (by omega), nI_clamp (n := s) (by omega), (seg_kd hw c3).2.2.2]
    obtain ⟨d1, d2, d3, d4, d5, d6, d7⟩ := c1
    refine h1 e hf _ ⟨d1, fun n hn => ?_, fun n a c i hi => ?_, fun i hi => ?_, wA_at _ _ _ _, ?_, d7⟩
    · rw [wA_arr (fun z => hn (by simp [z]))]
      exact d2 n (fun z => hn (by simp at z ⊢; omega))
    · rw [wA_ne (by omega)]
      exact d3 n i hi
    · rw [wA_ne (by omega), d2 7 (by simp)]
    · exact seg_move (fun a h1 h4 i hi => wA_ne (by omega)) c2
  · exact vX11_store (m_fits (p := 0) (d := d) hw hb hb1 (fun z => absurd z e) (fun z => absurd z e) (fun h => ⟨fun z => absurd rfl z, fun _ => h0 h⟩))
theorem drop_cons {x : Tm} {i : Nat} (h : i < x.length) : x.drop i = x[i] :: x.drop (i + 1) := List.drop_eq_getElem_cons h
theorem vb_take {x : Tm} {i : Nat} (h : i < x.length) : vb (x.take (i + 1)) = vb (x.take i) ||| (if x[i].1 = 0 then 2 ^ x[i].2.1 else 0) := by
  rw [take_snoc h, vb_app]
  simp [vb]
theorem m_variablesIn {p d : Nat} {x : Tm} {Q : Int32 → am_S → Prop} (hw : wf x) (hx : ∀ h ∈ x, h.1 ≤ 4 ∧ h.2.1 < 22) (hs : seg σ p x) (hp : p + x.length ≤ 70000) (H : Q (nI (vb x)) σ) : am_K ri am_Lm IX11_variablesIn (d + 1) [.ref 0, .int (nI p)] σ Q := by
  have hpos := wf_pos hw
  have e4 := (seg_kd hw hs).2.2.2
  have loop : ∀ m i, i + m = x.length → am_X ri am_Lm IX11_variablesIn (d + 1) 4 [some (.ref 0), some (.int (nI p)), some (.int (nI (vb (x.take i)))), some (.int (nI (p + i)))] [] σ Q := by
    intro m
    induction m with
    | zero =>
      intro i hi
      refine vX11_variablesIn_4 ⟨vp_in_nI (by omega) (by decide), ?_⟩
      rw [nI_clamp (n := p) (by omega), e4, nI_add]
      refine pk_le (p + x.length) (p + i) (fun _ => ?_) (fun h => by omega)
      rw [List.take_of_length_le (by omega)]
      exact H
    | succ m ih =>
      intro i hi
      have hiL : i < x.length := by omega
      obtain ⟨s1, s2, s3⟩ := seg_get hs (List.getElem?_eq_getElem hiL)
      obtain ⟨hx1, hx2⟩ := hx _ (List.getElem_mem hiL)
      have := ih (i + 1) (by omega)
      rw [vb_take hiL] at this
      refine vX11_variablesIn_4 ⟨vp_in_nI (by omega) (by decide), ?_⟩
      rw [nI_clamp (n := p) (by omega), e4, nI_add, nI_clamp (n := p + i) (by omega), s1, s2, nI_1, nx_1shl (by omega)]
      refine pk_le (p + x.length) (p + i) (fun h => by omega) (fun _ => ⟨vp_in_nI (by omega) (by decide), And.symm (pk_eq x[i].1 0 (fun e => ⟨vp_in_nI (by omega) (by decide), ?_⟩) (fun e => ?_))⟩)
      · rw [if_pos e, ← nx_or] at this
        exact this
      · rw [if_neg e, ← nx_or] at this
        exact this
  refine vX11_variablesIn ?_
  have := loop x.length 0 (by omega)
  simp [vb] at this
  exact this
theorem Can_nd : ∀ x, Can x → ∀ h ∈ x, h.1 ≤ 4 ∧ h.2.1 < 22 := by
  refine can_ind fun k a L hl hc ih h hh => ?_
  simp only [node, List.mem_cons, List.mem_flatten] at hh
  rcases hh with e | ⟨y, hy, hh⟩
  · rw [e]; exact loc_bd hl
  · exact ih y hy h hh
/-! how many bits -/
def pop : Nat → Nat → Nat
  | 0, _ => 0
  | k + 1, n => pop k n + n / 2 ^ k % 2
theorem m_bitsOf {n d : Nat} {Q : Int32 → am_S → Prop} (hn : n < 2 ^ 22) (H : Q (nI (pop 22 n)) σ) : am_K ri am_Lm IX11_bitsOf (d + 1) [.int (nI n)] σ Q := by
  have loop : ∀ m i, i + m = 22 → am_X ri am_Lm IX11_bitsOf (d + 1) 4 [some (.int (nI n)), some (.int (nI (pop i n))), some (.int (nI i))] [] σ Q := by
    intro m
    induction m with
    | zero =>
      intro i hi
      have : i = 22 := by omega
      subst this
      exact vX11_bitsOf_4 (pk_le 22 22 (fun _ => H) (fun h => by omega))
    | succ m ih =>
      intro i hi
      refine vX11_bitsOf_4 (pk_le 22 i (fun h => by omega) (fun _ => ?_))
      rw [nx_tb (by omega) (by omega), nI_add, nI_1]
      exact ih (i + 1) (by omega)
  exact vX11_bitsOf (loop 22 0 (by omega))
end ST
