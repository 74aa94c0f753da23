/-! ===== choice, the list of MATCHERS, the search ===== -/
def Mt (D : List Tm) (σ : am_S) : Prop := ∃ c, gS σ 11 6 = nI c ∧ c ≤ 51 ∧ ∀ i, i < 4 * c → i < 200 → gv D (gJ σ 27 i)
/-- an open kid, and the row that is left for it -/
def kOk (D M : List Tm) (σ : am_S) (f q : Nat) : Prop := q < M.length ∧ ∃ p x, M[p]? = some x ∧ gA σ 20 q = nI p ∧ Rg D σ f p x
section MQ
variable {D M : List Tm} {f : Nat}
theorem Mt_fN {σ τ : am_S} (h : Mt D σ) (g : fN f σ τ) : Mt D τ := by
  obtain ⟨c, h1, h2, h3⟩ := h
  exact ⟨c, (g.1.1 11 6 (by simp)).trans h1, h2, fun i a b => by rw [g.1.2.2.1 27 (by decide)]; exact h3 i a b⟩
theorem idD {l : List Nat} (hl : idl D l) {i : Nat} (hi : i < l.length) : ∃ a, l[i] = a + 1 ∧ a < D.length := by
  obtain ⟨h1, h2⟩ := hl.2 _ (List.getElem_mem hi)
  exact ⟨l[i] - 1, by omega, by omega⟩
theorem x_mways {σ : am_S} {d q k : Nat} {l : List Nat} {Q : Int32 → am_S → Prop} (hC : Cx D M σ) (hq : q < M.length) (hk : k ≤ 4) (hl : idl D l) (H : ∀ v, Q v σ) : am_K ri am_Lx IX3_ways (d + 4) [.ref 11, .long (lN (rE k l)), .int (nI q)] σ Q := by
  have hD40 := hC.1.2.1
  have hM := hC.2.2
  have hz := List.getElem?_eq_getElem hq
  obtain ⟨hcz, hfz, -, u, m', fs', k', id', l', e1, e2, e3, e4, e5, -⟩ := Cx_node hC hz
  have hvq : vp_in (nI q) 40 := vp_in_nI (by omega) (by omega)
  refine vX3_ways ⟨hvq, ?_⟩
  rw [nI_clamp (by omega), e3]
  refine r_divided (d := d) hk (idl_rG hl hD40) e4 (by omega) fun mm hmm hmt hma => r_size (d := d + 2) hk hmm ⟨hvq, o_s e1 ⟨Rp_T e2, fun _ => ?_, fun _ => H _⟩⟩
  have hidm : idl D mm := ⟨hmm.1, fun a ha => hl.2 a (dvP_mem (hma a ha))⟩
  have h8 := hmm.1
  have loop : ∀ (c i : Nat) (w : Int32), i + c = mm.length → am_X ri am_Lx IX3_ways (d + 3 + 1) 50 [some (.ref 11), some (.long (lN (rE k l))), none, some (.int (nI q)), some (.long (lN (rE k mm))), none, some (.int (nI mm.length)), some (.int w), some (.int (nI i))] [] σ Q := by
    intro c
    induction c with
    | zero =>
      intro i w hi
      exact vX3_ways_50 ⟨fun _ => H _, fun z => absurd (nI_le (by omega) (by omega)) z⟩
    | succ c ih =>
      intro i w hi
      have hil : i < mm.length := by omega
      obtain ⟨a, ha, haD⟩ := idD hidm hil
      refine vX3_ways_50 ⟨fun z => absurd z (nI_ge (by omega) (by omega)), fun _ => r_at (d := d + 2) hk hmm hil ?_⟩
      rw [ha, nI_1]
      exact x_alike (d := d + 2) hC hz (List.getElem?_eq_getElem haD) ⟨fun _ => ih (i + 1) _ (by omega), fun z => absurd rfl z⟩ fun _ _ => ⟨fun z => absurd z (by decide), fun _ => ih (i + 1) _ (by omega)⟩
  exact loop mm.length 0 0 (by omega)
theorem x_choice {σ : am_S} {d : Nat} {Q : Int32 → am_S → Prop} (hC : Cx D M σ) (hF : Fr D M f σ) (hf : f ≤ 40) (H0 : Q (-1) σ) (H1 : ∀ q, kOk D M σ f q → Q (nI q) σ) : am_K ri am_Lx IX3_choice (d + 5) [.ref 11, .int (nI f)] σ Q := by
  have hM := hC.2.2
  have outer : ∀ (c p : Nat) (l2 l3 : Int32), p + c = M.length → (l2 = -1 ∨ ∃ q, l2 = nI q ∧ kOk D M σ f q) → am_X ri am_Lx IX3_choice (d + 4 + 1) 9 [some (.ref 11), some (.int (nI f)), some (.int l2), some (.int l3), some (.int (nI p)), none, none, none, none] [] σ Q := by
    intro c
    induction c with
    | zero =>
      intro p l2 l3 hp hl
      refine vX3_choice_9 ?_
      rw [hC.2.1.1]
      refine ⟨fun _ => ?_, fun z => absurd (nI_le (by omega) (by omega)) z⟩
      rcases hl with rfl | ⟨q, rfl, hq⟩
      · exact H0
      · exact H1 q hq
    | succ c ih =>
      intro p l2 l3 hp hl
      have hpl : p < M.length := by omega
      have hx := List.getElem?_eq_getElem hpl
      obtain ⟨hcx, hfx, hp40, t, m, fs, k, id, lg, a1, a2, a3, a4, a5, a6, a7, a8, a9, a10, a11, -⟩ := Cx_node hC hx
      obtain ⟨b, k2, c1, c2, c3, c4, c5⟩ := hF.1 p _ hx
      have hb256 := pk_le8 c2
      have hv : vp_in (nI (40 * f + p)) 1640 := vp_in_nI (by omega) (by omega)
      have hvp : vp_in (nI p) 40 := vp_in_nI (by omega) (by omega)
      refine vX3_choice_9 ?_
      rw [hC.2.1.1, ix40, nI_clamp (by omega), c3]
      refine ⟨fun z => absurd z (nI_ge (by omega) (by omega)), fun _ => ⟨hv, ?_⟩⟩
      have inner : ∀ (e j : Nat) (l2 l3 : Int32), j + e = k → (l2 = -1 ∨ ∃ q, l2 = nI q ∧ kOk D M σ f q) → am_X ri am_Lx IX3_choice (d + 4 + 1) 38 [some (.ref 11), some (.int (nI f)), some (.int l2), some (.int l3), some (.int (nI p)), some (.int (nI b)), some (.int (nI j)), none, none] [] σ Q := by
        intro e
        induction e with
        | zero =>
          intro j l2 l3 hj hl
          have nx := ih (p + 1) l2 l3 (by omega) hl
          rw [← nI_1] at nx
          refine vX3_choice_38 ⟨fun _ => nx, fun _ => ⟨hvp, ?_⟩⟩
          rw [nI_clamp (n := p) (by omega), a7]
          exact ⟨fun _ => nx, fun z => absurd (nI_le (by omega) (by omega)) z⟩
        | succ e ihe =>
          intro j l2 l3 hj hl
          have nx := ih (p + 1) l2 l3 (by omega) hl
          rw [← nI_1] at nx
          refine vX3_choice_38 ⟨fun _ => nx, fun hb => ⟨hvp, ?_⟩⟩
          have hb0 : b ≠ 0 := fun w => hb (by rw [w]; rfl)
          have hRg := c5 hb0
          obtain ⟨r34, l, r2, r3, r4⟩ := hRg
          rw [nI_clamp (n := p) (by omega), a7, a6, nI_add, ix40, nI_clamp (n := 40 * f + p) (by omega), r4, nI_1 j]
          refine ⟨fun _ => nx, fun _ => ⟨hvp, fun _ => ihe (j + 1) l2 l3 (by omega) hl, fun _ => ⟨hv, x_mways (d := d) hC (by omega) (kd4 hcx) r2 fun v => ⟨fun _ => ihe (j + 1) l2 _ (by omega) hl, fun _ => ihe (j + 1) _ _ (by omega) (Or.inr ⟨fs + j, rfl, by omega, p, _, hx, a11 _ (by omega) (by omega), r34, l, r2, r3, r4⟩)⟩⟩⟩⟩
      exact inner k 0 l2 l3 (by omega) hl
  exact vX3_choice (outer M.length 0 (-1) 256 (by omega) (Or.inl rfl))
theorem x_jcmp {σ : am_S} {d : Nat} {a b : Int64} {Q : Int32 → am_S → Prop} (H : ∀ v, Q v σ) : am_K ri am_Lx IJ13_compare_74951 (d + 1) [.long a, .long b] σ Q := vJ13_compare_74951 ⟨fun _ => ⟨fun _ => H _, fun _ => H _⟩, fun _ => H _⟩
theorem x_isAhead {σ : am_S} {d a b : Nat} {Q : Int32 → am_S → Prop} (ha : a + 4 ≤ 164) (hb : b + 4 ≤ 200) (H : ∀ v, Q v σ) : am_K ri am_Lx IX3_isAhead (d + 2) [.ref 11, .int (nI a), .int (nI b)] σ Q := by
  have loop : ∀ (c j : Nat) (w : Int32), j + c = 4 → am_X ri am_Lx IX3_isAhead (d + 1 + 1) 5 [some (.ref 11), some (.int (nI a)), some (.int (nI b)), some (.int w), some (.int (nI j))] [] σ Q := by
    intro c
    induction c with
    | zero =>
      intro j w hj
      exact vX3_isAhead_5 ⟨fun _ => ⟨fun _ => H _, fun _ => H _⟩, fun _ => ⟨fun _ => ⟨fun _ => H _, fun _ => H _⟩, fun z => absurd (nI_le (a := 4) (b := j) (by omega) (by omega)) z⟩⟩
    | succ c ih =>
      intro j w hj
      refine vX3_isAhead_5 ⟨fun _ => ⟨fun _ => H _, fun _ => H _⟩, fun _ => ⟨fun _ => ⟨fun _ => H _, fun _ => H _⟩, fun _ => ?_⟩⟩
      rw [nI_add, nI_add, nI_1]
      exact ⟨vp_in_nI (by omega) (by omega), vp_in_nI (by omega) (by omega), x_jcmp (d := d) fun v => ih (j + 1) v (by omega)⟩
  exact vX3_isAhead (loop 4 0 0 (by omega))
theorem x_enlist {σ : am_S} {d : Nat} {Q : Unit → am_S → Prop} (hF : Fr D M f σ) (hf : f ≤ 40) (hm : Mt D σ) (H : ∀ τ, fM f σ τ → Mt D τ → Q () τ) : am_K ru am_Lx IX3_enlist (d + 3) [.ref 11, .int (nI (4 * f))] σ Q := by
  obtain ⟨c, h1, h2, h3⟩ := hm
  refine vX3_enlist ?_
  rw [h1]
  refine ⟨fun z => ?_, fun z => H _ ⟨fr_wS fr_rfl (by simp), fun _ _ => ⟨rfl, rfl⟩, fun _ _ => rfl⟩ ⟨51, wS_at _ _ _ _, by omega, fun i _ hi => ?_⟩⟩
  · have hc : c < 50 := by
      rcases Nat.lt_or_ge c 50 with y | y
      · exact y
      · exact absurd z (nI_nlt (b := 50) y (by omega))
    have e4 : ∀ a, nI a * (4 : Int32) = nI (4 * a) := fun a => by
      show nI a * nI 4 = _
      rw [pk_mul, Nat.mul_comm]
    have c4 : ((4 : Int32)).toNatClampNeg = 4 := rfl
    have fin : ∀ (a : Nat) (τ : am_S), a ≤ c → fM f σ τ → gS τ 11 6 = nI c → (∀ i, i < 4 * (c + 1) → ¬ (4 * a ≤ i ∧ i < 4 * a + 4) → gv D (gJ τ 27 i)) → (∀ i, gJ τ 26 i = gJ σ 26 i) → Q () (wS (wJf τ 27 (va_cpy (gJ τ 26) (gJ τ 27) (4 * f) (4 * a) 4)) 11 6 (nI c + 1)) := by
      intro a τ ha g g1 g2 g3
      refine H _ (fM_trans g ⟨fr_wS (fr_wJf fr_rfl (by simp)) (by simp), fun i _ => ⟨rfl, by show gJ (wJf τ 27 _) 25 i = _; rw [wJf_ne (by decide)]⟩, fun i _ => by show gJ (wJf τ 27 _) 26 i = _; rw [wJf_ne (by decide)]⟩) ⟨c + 1, by rw [wS_at, nI_1], by omega, fun i hi _ => ?_⟩
      show gv D (gJ (wJf τ 27 _) 27 i)
      rw [wJf_at]
      unfold va_cpy
      split
      · rename_i w
        rw [g3, show 4 * f + (i - 4 * a) = 4 * f + (i - 4 * a) from rfl]
        exact hF.2 (i - 4 * a) (by omega)
      · rename_i w
        exact g2 i hi w
    have loop : ∀ (a : Nat) (τ : am_S), a ≤ c → fM f σ τ → gS τ 11 6 = nI c → (∀ i, i < 4 * (c + 1) → ¬ (4 * a ≤ i ∧ i < 4 * a + 4) → gv D (gJ τ 27 i)) → (∀ i, gJ τ 26 i = gJ σ 26 i) → am_X ru am_Lx IX3_enlist (d + 2 + 1) 21 [some (.ref 11), some (.int (nI (4 * f))), some (.int (nI a))] [] τ Q := by
      intro a
      induction a with
      | zero =>
        intro τ ha g g1 g2 g3
        refine vX3_enlist_21 ⟨fun _ => ?_, fun z => absurd (by decide : nI 0 ≤ 0) z⟩
        rw [e4, c4, nI_clamp (n := 4 * f) (by omega), nI_clamp (n := 4 * 0) (by omega), g1]
        exact ⟨nI_pos (by omega), nI_pos (by omega), by decide, by omega, by omega, fin 0 τ ha g g1 g2 g3⟩
      | succ a ih =>
        intro τ ha g g1 g2 g3
        refine vX3_enlist_21 ⟨fun w => absurd w (nI_nle (by omega) (by omega)), fun _ => ?_⟩
        rw [nI_pred, e4, e4, c4, nI_clamp (n := 4 * f) (by omega), nI_clamp (n := 4 * (a + 1)) (by omega), nI_clamp (n := 4 * a) (by omega)]
        refine x_isAhead (d := d) (by omega) (by omega) fun v => ⟨fun _ => ?_, fun _ => ⟨nI_pos (by omega), nI_pos (by omega), by decide, by omega, by omega, ?_⟩⟩
        · rw [g1]
          exact ⟨nI_pos (by omega), nI_pos (by omega), by decide, by omega, by omega, fin (a + 1) τ ha g g1 g2 g3⟩
        · rw [i_m1, nI_pred]
          refine ih _ (by omega) (fM_trans g ⟨fr_wJf fr_rfl (by simp), fun i _ => ⟨rfl, by rw [wJf_ne (by decide)]⟩, fun i _ => by rw [wJf_ne (by decide)]⟩) g1 (fun i hi hn => ?_) (fun i => by rw [wJf_ne (by decide)]; exact g3 i)
          rw [wJf_at]
          unfold va_cpy
          split
          · rename_i w
            exact g2 _ (by omega) (by omega)
          · rename_i w
            exact g2 i hi (by omega)
    exact loop c σ (Nat.le_refl _) fM_rfl h1 (fun i hi hn => h3 i (by omega) (by omega)) (fun _ => rfl)
  · have hc : 50 ≤ c := by
      rcases Nat.lt_or_ge c 50 with y | y
      · exact absurd (nI_lt (b := 50) y (by decide)) z
      · exact y
    exact h3 i (by omega) hi
end MQ
