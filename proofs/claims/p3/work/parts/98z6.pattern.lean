/-! ===== the PATTERN's TERMS as the class lays them out ===== -/
def pt0 (B : Nat) (σ : am_S) (q : Nat) (x : Tm) : Prop := ∃ t m o, gP σ 17 q = some t ∧ Rp σ t x ∧ gA σ 19 q = nI m ∧ 1 ≤ m ∧ m ≤ B ∧ gA σ 20 q = nI o ∧ o < 40
def pt1 (σ : am_S) (S q : Nat) (x : Tm) : Prop := ∃ f k id l, gA σ 21 q = nI f ∧ gA σ 22 q = nI k ∧ f + k ≤ S ∧ k ≤ (pts x).length ∧ (∀ c, f ≤ c → c < f + k → gA σ 20 c = nI q) ∧ gA σ 18 q = nI id ∧ id ≤ 40 ∧ gJ σ 23 q = lN (rE (kd x) l) ∧ rG l ∧ (kd x = 2 → id = 0 → k = (pts x).length)
def pot (M : List Tm) (p : Nat) : Nat := ((M.drop p).map (fun x => x.length - 1)).sum
/-- p of the TERMS of M are unfolded -/
def Pn (M : List Tm) (p B : Nat) (σ : am_S) : Prop := gS σ 16 7 = nI M.length ∧ (∀ q x, M[q]? = some x → Can x ∧ fits x ∧ pt0 B σ q x) ∧ ∀ q x, q < p → M[q]? = some x → pt1 σ M.length q x
theorem pot_snoc {M : List Tm} {y : Tm} {p : Nat} (h : p ≤ M.length) : pot (M ++ [y]) p = pot M p + (y.length - 1) := by
  unfold pot
  rw [List.drop_append_of_le_length h, List.map_append, List.sum_append]
  simp
theorem pot_cons {M : List Tm} {p : Nat} {x : Tm} (h : M[p]? = some x) : pot M p = x.length - 1 + pot M (p + 1) := by
  obtain ⟨h1, rfl⟩ := List.getElem?_eq_some_iff.mp h
  unfold pot
  rw [List.drop_eq_getElem_cons h1, List.map_cons, List.sum_cons]
theorem x_padd {σ : am_S} {d S u o : Nat} {x : Tm} {Q : Unit → am_S → Prop} (hS : gS σ 16 7 = nI S) (h40 : S < 40) (hr : Rp σ u x) (H : Q () (wS (wA (wA (wP σ 17 S (some u)) 19 S 1) 20 S (nI o)) 16 7 (nI (S + 1)))) : am_K ru am_Lx IX4_add (d + 1) [.ref 16, .ref u, .int (nI o)] σ Q := by
  refine vX4_add ?_
  rw [hS, nI_clamp (by omega), nI_1]
  exact ⟨fun z => absurd z (nI_ge (a := S) (b := 40) h40 (by decide)), fun _ => ⟨vp_in_nI h40 (by omega), Rp_T hr, vp_in_nI h40 (by omega), vp_in_nI h40 (by omega), H⟩⟩
/-- while TERM p is unfolded: i of its PARTS are done -/
def Ul (N : List Tm) (p : Nat) (x : Tm) (i : Nat) (M : List Tm) (σ : am_S) : Prop :=
  Pn M p (1 + 8 * p + i) σ ∧ (∀ q, q < N.length → M[q]? = N[q]?) ∧ M.length + pot M (p + 1) + ((pts x).drop i).flatten.length ≤ 40 ∧
  ∃ c l, M.length = N.length + c ∧ c ≤ i ∧ (kd x = 2 → c = i) ∧ gA σ 21 p = nI N.length ∧ gA σ 22 p = nI c ∧ gA σ 18 p = nI 0 ∧ gJ σ 23 p = lN (rE (kd x) l) ∧ rG l ∧ l.length ≤ i ∧ ∀ q, N.length ≤ q → q < M.length → gA σ 20 q = nI p
theorem q17 : ∀ x ∈ [((16 : Nat), (7 : Nat))], x.1 < 48 := by decide
theorem q17p : ∀ x ∈ [(17 : Nat)], x < 48 := by decide
section PAT
variable {D N : List Tm} {p d t : Nat} {x : Tm}
/-- a TERM more -/
theorem Ul_add {M : List Tm} {i u : Nat} {y : Tm} {σ : am_S} (hp : p < N.length) (hx : Can x) (hfx : fits x) (hU : Ul N p x i M σ) (hy : (pts x)[i]? = some y) (hr : Rp σ u y) : M.length < 40 ∧ ∀ τ, τ = wA (wS (wA (wA (wP σ 17 M.length (some u)) 19 M.length 1) 20 M.length (nI p)) 16 7 (nI (M.length + 1))) 22 p (gA σ 22 p + 1) → Ul N p x (i + 1) (M ++ [y]) τ := by
  obtain ⟨⟨h1, h2, h3⟩, h4, h5, c, l, g1, g2, g3, g4, g5, g6, g7, g8, g9, g10⟩ := hU
  have hyL := List.mem_of_getElem? hy
  have hcy : Can y := pts_Can hx hyL
  have hfy : fits y := (fits_pts hx hfx).2 y hyL
  have hpos := wf_pos (Can_wf hcy)
  have hdr : ((pts x).drop i).flatten.length = y.length + ((pts x).drop (i + 1)).flatten.length := by
    obtain ⟨hi, e⟩ := List.getElem?_eq_some_iff.mp hy
    rw [List.drop_eq_getElem_cons hi, e, List.flatten_cons, List.length_append]
  have hi8 : i < (pts x).length := (List.getElem?_eq_some_iff.mp hy).1
  have hp8 := (fits_pts hx hfx).1
  refine ⟨by omega, fun τ hτ => ?_⟩
  have hM : M.length < 40 := by omega
  have fS : gS τ 16 7 = nI (M.length + 1) := by
    rw [hτ]
    show gS (wS (wA (wA (wP σ 17 M.length (some u)) 19 M.length 1) 20 M.length (nI p)) 16 7 (nI (M.length + 1))) 16 7 = _
    rw [wS_at]
  have fP : ∀ q, gP τ 17 q = if q = M.length then some u else gP σ 17 q := fun q => by
    rw [hτ]
    show gP (wP σ 17 M.length (some u)) 17 q = _
    by_cases e : q = M.length
    · rw [if_pos e, e, wP_at]
    · rw [if_neg e, wP_ne (by omega)]
  have f19 : ∀ q, gA τ 19 q = if q = M.length then 1 else gA σ 19 q := fun q => by
    rw [hτ, wA_ne (by omega)]
    show gA (wA (wA (wP σ 17 M.length (some u)) 19 M.length 1) 20 M.length (nI p)) 19 q = _
    rw [wA_ne (by omega)]
    by_cases e : q = M.length
    · rw [if_pos e, e, wA_at]
    · rw [if_neg e, wA_ne (by omega)]
      rfl
  have f20 : ∀ q, gA τ 20 q = if q = M.length then nI p else gA σ 20 q := fun q => by
    rw [hτ, wA_ne (by omega)]
    show gA (wA (wA (wP σ 17 M.length (some u)) 19 M.length 1) 20 M.length (nI p)) 20 q = _
    by_cases e : q = M.length
    · rw [if_pos e, e, wA_at]
    · rw [if_neg e, wA_ne (by omega), wA_ne (by omega)]
      rfl
  have fo : ∀ n q, n ≠ 19 → n ≠ 20 → n ≠ 22 → gA τ n q = gA σ n q := fun n q a b e => by
    rw [hτ, wA_ne (by omega)]
    show gA (wA (wA (wP σ 17 M.length (some u)) 19 M.length 1) 20 M.length (nI p)) n q = _
    rw [wA_ne (by omega), wA_ne (by omega)]
    rfl
  have f22 : ∀ q, gA τ 22 q = if q = p then gA σ 22 p + 1 else gA σ 22 q := fun q => by
    rw [hτ]
    by_cases e : q = p
    · rw [if_pos e, e, wA_at]
    · rw [if_neg e, wA_ne (by omega)]
      show gA (wA (wA (wP σ 17 M.length (some u)) 19 M.length 1) 20 M.length (nI p)) 22 q = _
      rw [wA_ne (by omega), wA_ne (by omega)]
      rfl
  have fJ : gJ τ = gJ σ := by rw [hτ]; rfl
  have hfr : fr [(16, 7)] [19, 20, 22] [] [17] σ τ := by
    rw [hτ]
    exact fr_wA (fr_wS (fr_wA (fr_wA (fr_wP fr_rfl (by simp)) (by simp)) (by simp)) (by simp)) (by simp)
  have hlen : (M ++ [y]).length = M.length + 1 := by rw [List.length_append]; rfl
  refine ⟨⟨by rw [fS, hlen], fun q z hz => ?_, fun q z hq hz => ?_⟩, fun q hq => ?_, ?_, c + 1, l, by omega, by omega, fun e => by have := g3 e; omega, by rw [fo 21 p (by omega) (by omega) (by omega)]; exact g4, ?_, by rw [fo 18 p (by omega) (by omega) (by omega)]; exact g6, by rw [fJ]; exact g7, g8, by omega, fun q a b => ?_⟩
  · by_cases e : q = M.length
    · subst e
      rw [List.getElem?_append_right (Nat.le_refl _), Nat.sub_self] at hz
      have ez : y = z := Option.some.inj hz
      subst ez
      exact ⟨hcy, hfy, u, 1, p, by rw [fP, if_pos rfl], fr_R hfr q17 q17p hr, by rw [f19, if_pos rfl]; rfl, by omega, by omega, by rw [f20, if_pos rfl], by omega⟩
    · have hql : q < M.length := by
        have := (List.getElem?_eq_some_iff.mp hz).1
        omega
      rw [List.getElem?_append_left hql] at hz
      obtain ⟨a1, a2, t', m, o, b1, b2, b3, b4, b5, b6, b7⟩ := h2 q z hz
      exact ⟨a1, a2, t', m, o, by rw [fP, if_neg e]; exact b1, fr_R hfr q17 q17p b2, by rw [f19, if_neg e]; exact b3, b4, by omega, by rw [f20, if_neg e]; exact b6, b7⟩
  · have hql : q < M.length := by omega
    rw [List.getElem?_append_left hql] at hz
    obtain ⟨f, k, id, l', b1, b2, b3, b4, b5, b6, b7, b8, b9, b10⟩ := h3 q z hq hz
    refine ⟨f, k, id, l', by rw [fo 21 q (by omega) (by omega) (by omega)]; exact b1, by rw [f22, if_neg (by omega)]; exact b2, by omega, b4, fun c' k1 k2 => ?_, by rw [fo 18 q (by omega) (by omega) (by omega)]; exact b6, b7, by rw [fJ]; exact b8, b9, b10⟩
    rw [f20, if_neg (by omega)]
    exact b5 c' k1 k2
  · rw [List.getElem?_append_left (by omega)]
    exact h4 q hq
  · rw [hlen, pot_snoc (by omega)]
    omega
  · rw [f22, if_pos rfl, g5, nI_1]
  · rw [f20]
    by_cases e : q = M.length
    · rw [if_pos e]
    · rw [if_neg e]
      exact g10 q a (by omega)
/-- a TERM once more -/
theorem Ul_times {M : List Tm} {i : Nat} {y : Tm} {σ : am_S} (hp : p < N.length) (hi : i < (pts x).length) (h8 : (pts x).length ≤ 8) (hk : kd x ≠ 2) (hU : Ul N p x i M σ) (hy : (pts x)[i]? = some y) : ∀ m, gA σ 19 (M.length - 1) = nI m → ∀ τ, τ = wA σ 19 (M.length - 1) (nI (m + 1)) → Ul N p x (i + 1) M τ := by
  obtain ⟨⟨h1, h2, h3⟩, h4, h5, c, l, g1, g2, g3, g4, g5, g6, g7, g8, g9, g10⟩ := hU
  intro m hm τ hτ
  have hdr : ((pts x).drop (i + 1)).flatten.length ≤ ((pts x).drop i).flatten.length := by
    rw [List.drop_eq_getElem_cons hi, List.flatten_cons, List.length_append]
    omega
  have fo : ∀ n q, n ≠ 19 → gA τ n q = gA σ n q := fun n q a => by rw [hτ, wA_ne (by omega)]
  have hfr : fr [] [19] [] [] σ τ := by rw [hτ]; exact fr_wA fr_rfl (by simp)
  have fP : gP τ = gP σ := by rw [hτ]; rfl
  have fJ : gJ τ = gJ σ := by rw [hτ]; rfl
  have fS : gS τ = gS σ := by rw [hτ]; rfl
  refine ⟨⟨by rw [fS]; exact h1, fun q z hz => ?_, fun q z hq hz => ?_⟩, h4, by omega, c, l, g1, by omega, fun e => absurd e hk, by rw [fo 21 p (by omega)]; exact g4, by rw [fo 22 p (by omega)]; exact g5, by rw [fo 18 p (by omega)]; exact g6, by rw [fJ]; exact g7, g8, by omega, fun q a b => by rw [fo 20 q (by omega)]; exact g10 q a b⟩
  · obtain ⟨a1, a2, t', m', o, b1, b2, b3, b4, b5, b6, b7⟩ := h2 q z hz
    have hR := fr_R hfr (fun _ w => by cases w) (fun _ w => by cases w) b2
    by_cases e : q = M.length - 1
    · have em : nI m' = nI m := by rw [← b3, e]; exact hm
      have hmm : m' ≤ 1 + 8 * p + i := b5
      refine ⟨a1, a2, t', m' + 1, o, by rw [fP]; exact b1, hR, ?_, by omega, by omega, by rw [fo 20 q (by omega)]; exact b6, b7⟩
      rw [e, hτ, wA_at, ← nI_1, ← em, nI_1]
    · exact ⟨a1, a2, t', m', o, by rw [fP]; exact b1, hR, by rw [hτ, wA_ne (by omega)]; exact b3, b4, by omega, by rw [fo 20 q (by omega)]; exact b6, b7⟩
  · obtain ⟨f, k, id, l', b1, b2, b3, b4, b5, b6, b7, b8, b9, b10⟩ := h3 q z hq hz
    exact ⟨f, k, id, l', by rw [fo 21 q (by omega)]; exact b1, by rw [fo 22 q (by omega)]; exact b2, b3, b4, fun c' k1 k2 => by rw [fo 20 c' (by omega)]; exact b5 c' k1 k2, by rw [fo 18 q (by omega)]; exact b6, b7, by rw [fJ]; exact b8, b9, b10⟩
/-- a PART without VARIABLES -/
theorem Ul_ground {M : List Tm} {i a : Nat} {σ : am_S} {l : List Nat} (hp : p < N.length) (hi : i < (pts x).length) (h8 : (pts x).length ≤ 8) (hk : kd x ≠ 2) (ha : a < 64) (hU : Ul N p x i M σ) (hl : gJ σ 23 p = lN (rE (kd x) l)) (hg : rG l) (hl8 : l.length ≤ i) : ∀ τ, τ = wJ σ 23 p (lN (rE (kd x) (l ++ [a]))) → Ul N p x (i + 1) M τ := by
  obtain ⟨⟨h1, h2, h3⟩, h4, h5, c, l0, g1, g2, g3, g4, g5, g6, g7, g8, g9, g10⟩ := hU
  intro τ hτ
  have hdr : ((pts x).drop (i + 1)).flatten.length ≤ ((pts x).drop i).flatten.length := by
    rw [List.drop_eq_getElem_cons hi, List.flatten_cons, List.length_append]
    omega
  have fA : gA τ = gA σ := by rw [hτ]; rfl
  have hfr : fr [] [] [23] [] σ τ := by rw [hτ]; exact fr_wJ fr_rfl (by simp)
  have fP : gP τ = gP σ := by rw [hτ]; rfl
  have fS : gS τ = gS σ := by rw [hτ]; rfl
  refine ⟨⟨by rw [fS]; exact h1, fun q z hz => ?_, fun q z hq hz => ?_⟩, h4, by omega, c, l ++ [a], g1, by omega, fun e => absurd e hk, by rw [fA]; exact g4, by rw [fA]; exact g5, by rw [fA]; exact g6, by rw [hτ, wJ_at], rG_snoc hg (by omega) ha, by rw [List.length_append]; show l.length + 1 ≤ i + 1; omega, fun q a b => by rw [fA]; exact g10 q a b⟩
  · obtain ⟨a1, a2, t', m', o, b1, b2, b3, b4, b5, b6, b7⟩ := h2 q z hz
    exact ⟨a1, a2, t', m', o, by rw [fP]; exact b1, fr_R hfr (fun _ w => by cases w) (fun _ w => by cases w) b2, by rw [fA]; exact b3, b4, by omega, by rw [fA]; exact b6, b7⟩
  · obtain ⟨f, k, id, l', b1, b2, b3, b4, b5, b6, b7, b8, b9, b10⟩ := h3 q z hq hz
    exact ⟨f, k, id, l', by rw [fA]; exact b1, by rw [fA]; exact b2, b3, b4, fun c' k1 k2 => by rw [fA]; exact b5 c' k1 k2, by rw [fA]; exact b6, b7, by rw [hτ, wJ_ne (by omega)]; exact b8, b9, b10⟩
end PAT
