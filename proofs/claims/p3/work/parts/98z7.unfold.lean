/-! ===== unfolds, takes ===== -/
theorem Ins_fr {D : List Tm} {σ τ : am_S} {S : List (Nat × Nat)} {A J P : List Nat} (h : Ins D σ) (f : fr S A J P σ τ) (hS : (12, 3) ∉ S) (hS2 : ∀ x ∈ S, x.1 < 48) (h13 : 13 ∉ P) (hP2 : ∀ x ∈ P, x < 48) (h14 : 14 ∉ J) (h15 : 15 ∉ J) : Ins D τ := by
  obtain ⟨⟨a1, a2, a3, a4⟩, a5, a6, a7⟩ := h
  refine ⟨⟨(f.1 12 3 hS).trans a1, a2, fun i x hx => ?_, a4⟩, a5, a6, fun i x hx => rw_fr (a7 i x hx) (by rw [f.2.2.1 14 h14]) (by rw [f.2.2.1 15 h15])⟩
  obtain ⟨t, b1, b2⟩ := a3 i x hx
  exact ⟨t, by rw [f.2.2.2.1 13 h13]; exact b1, fr_R f hS2 hP2 b2⟩
def fU (σ τ : am_S) : Prop := fr [(16, 7)] [18, 19, 20, 21, 22] [23] [17] σ τ
theorem Ins_fU {D : List Tm} {σ τ : am_S} (h : Ins D σ) (f : fU σ τ) : Ins D τ := Ins_fr h f (by decide) (by decide) (by decide) (by decide) (by decide) (by decide)
theorem Rp_fU {σ τ : am_S} (f : fU σ τ) {t : Nat} {x : Tm} (h : Rp σ t x) : Rp τ t x := fr_R f q17 q17p h
section UNF
variable {D N : List Tm} {p d t : Nat} {x : Tm} {Q : Int32 → am_S → Prop}
theorem x_u95 {σ0 : am_S} {fl : Nat} (hp : p < N.length) (hN40 : N.length ≤ 40) (hx : Can x) (hfx : fits x) (hr : Rp σ0 t x) (hI : Ins D σ0) (hfl : fl = 0 ∧ kd x ≤ 2 ∨ fl = 1 ∧ 2 < kd x) (H1 : ∀ M τ, fU σ0 τ → Ul N p x (pts x).length M τ → Q 1 τ) (H0 : ∀ τ, fU σ0 τ → Q 0 τ) : ∀ (n i : Nat) (M : List Tm) (σ : am_S), i + n = (pts x).length → fU σ0 σ → Ul N p x i M σ → am_X ri am_Lx IX4_unfolds (d + 44) 95 [some (.ref 16), some (.int (nI p)), some (.ref 12), some (.ref t), some (.int (nI fl)), some (.int (nI i)), none, none] [] σ Q := by
  have h8 := (fits_pts hx hfx).1
  obtain ⟨ex, hloc, hcp⟩ := Can_pts hx
  have hwp : ∀ y ∈ pts x, wf y := fun y hy => Can_wf (hcp y hy)
  obtain ⟨hk4, -⟩ := loc_bd hloc
  intro n
  induction n with
  | zero =>
    intro i M σ hi f hU
    have hru' : Rp σ t (node (kd x) (nm x) (pts x)) := by rw [← ex]; exact Rp_fU f hr
    obtain ⟨b, b1, b2, b3, b4, b5, b6, b7⟩ := Rp_out hwp hru'
    refine vX4_unfolds_95 ⟨Rp_T hru', o_s b3 ⟨ar_A b4, fun _ => ?_, fun z => ?_⟩⟩
    · have e : i = (pts x).length := by omega
      rw [e] at hU
      exact H1 M σ f hU
    · rw [ar_L b4] at z
      exact absurd (nI_le (a := (pts x).length) (b := i) (by omega) (by omega)) z
  | succ n ih =>
    intro i M σ hi f hU
    have hru' : Rp σ t (node (kd x) (nm x) (pts x)) := by rw [← ex]; exact Rp_fU f hr
    obtain ⟨b, b1, b2, b3, b4, b5, b6, b7⟩ := Rp_out hwp hru'
    have hil : i < (pts x).length := by omega
    have hy : (pts x)[i]? = some (pts x)[i] := List.getElem?_eq_getElem hil
    have hym : (pts x)[i] ∈ pts x := List.getElem_mem hil
    obtain ⟨u, hu1, hu2⟩ := b7 i _ hy
    have hIσ := Ins_fU hI f
    have hD40 := hIσ.2.1
    have hcy : Can (pts x)[i] := hcp _ hym
    have hfy : fits (pts x)[i] := (fits_pts hx hfx).2 _ hym
    obtain ⟨hM40, hadd⟩ := Ul_add hp hx hfx hU hy hu2
    have hS : gS σ 16 7 = nI M.length := hU.1.1
    have addgo : ∀ dd, am_K ru am_Lx IX4_add (dd + 1) [.ref 16, .ref u, .int (nI p)] σ (fun _ σ1 => (vp_in (nI p) 40) ∧ (vp_in (nI p) 40) ∧ am_X ri am_Lx IX4_unfolds (d + 43 + 1) 95 [some (.ref 16), some (.int (nI p)), some (.ref 12), some (.ref t), some (.int (nI fl)), some (.int (nI i + (1 : Int32))), none, none] [] (wA σ1 22 (nI p).toNatClampNeg ((gA σ1 22 (nI p).toNatClampNeg) + (1 : Int32))) Q) := fun dd => by
      refine x_padd (x := (pts x)[i]) hS hM40 hu2 ⟨vp_in_nI (by omega) (by omega), vp_in_nI (by omega) (by omega), ?_⟩
      rw [nI_clamp (by omega), nI_1]
      have e22 : gA (wS (wA (wA (wP σ 17 M.length (some u)) 19 M.length 1) 20 M.length (nI p)) 16 7 (nI (M.length + 1))) 22 p = gA σ 22 p := by
        show gA (wA (wA (wP σ 17 M.length (some u)) 19 M.length 1) 20 M.length (nI p)) 22 p = _
        rw [wA_ne (by omega), wA_ne (by omega)]
        rfl
      rw [e22]
      exact ih (i + 1) _ _ (by omega) (fr_wA (fr_wS (fr_wA (fr_wA (fr_wP f (by simp)) (by simp)) (by simp)) (by simp)) (by simp)) (hadd _ rfl)
    refine vX4_unfolds_95 ⟨Rp_T hru', o_s b3 ⟨ar_A b4, fun z => ?_, fun _ => ⟨Rp_T hru', o_s b3 ⟨ar_R b4, ?_⟩⟩⟩⟩
    · rw [ar_L b4] at z
      exact absurd z (nI_ge (a := i) (b := (pts x).length) hil (by omega))
    rw [ar_L b4, nI_clamp (by omega)]
    refine ⟨vp_in_nI hil (by omega), o_s hu1 ⟨fun z => ?_, fun z => ?_⟩⟩
    · exact vX4_unfolds_162_r ⟨fun _ => addgo _, fun w => absurd z w⟩
    · have hk2 : kd x ≠ 2 := by
        rcases hfl with h | h
        · rw [h.1] at z
          exact absurd rfl z
        · omega
      have hyw : ∀ q ∈ pts (pts x)[i], wf q := fun q hq => Can_wf (pts_Can hcy hq)
      have ey := (Can_pts hcy).1
      have hu2' := hu2
      rw [ey] at hu2'
      obtain ⟨_, _, _, _, _, _, e4, _⟩ := Rp_out hyw hu2'
      rw [← ey] at e4
      have h162 : am_X ri am_Lx IX4_unfolds (d + 43 + 1) 162 [some (.ref 16), some (.int (nI p)), some (.ref 12), some (.ref t), some (.int (nI fl)), some (.int (nI i)), some (.ref u), none] [] σ Q := by
        refine vX4_unfolds_162_r ⟨fun w => absurd w z, fun _ => ⟨fun _ => addgo _, fun hi0 => ?_⟩⟩
        obtain ⟨j, rfl⟩ : ∃ j, i = j + 1 := ⟨i - 1, by
          have : 0 < i := Nat.pos_of_ne_zero fun w => hi0 (by rw [w]; decide)
          omega⟩
        have hjl : j < (pts x).length := by omega
        have hjm : (pts x)[j] ∈ pts x := List.getElem_mem hjl
        obtain ⟨v, hv1, hv2⟩ := b7 j _ (List.getElem?_eq_getElem hjl)
        refine ⟨Rp_T hru', o_s b3 ⟨ar_R b4, ?_⟩⟩
        rw [ar_L b4, nI_pred, nI_clamp (by omega)]
        refine ⟨vp_in_nI hjl (by omega), o_s hv1 ?_⟩
        have hl40 := ((fits_pts hx hfx).2 _ hjm).1
        have hl40' := hfy.1
        have key := x_compare (pts x)[j] (hcp _ hjm) (pts x)[j + 1] v u 0 (d + 42 - (pts x)[j].length) σ (fun r7 σ7 => (¬ r7 = 0 → am_K ru am_Lx IX4_add (d + 43) [.ref 16, .ref u, .int (nI p)] σ7 (fun _ σ8 => (vp_in (nI p) 40) ∧ (vp_in (nI p) 40) ∧ am_X ri am_Lx IX4_unfolds (d + 43 + 1) 95 [some (.ref 16), some (.int (nI p)), some (.ref 12), some (.ref t), some (.int (nI fl)), some (.int (nI (j + 1) + (1 : Int32))), none, none] [] (wA σ8 22 (nI p).toNatClampNeg ((gA σ8 22 (nI p).toNatClampNeg) + (1 : Int32))) Q)) ∧ (r7 = 0 → (vp_in ((gS σ7 16 7) - (1 : Int32)) 40) ∧ (vp_in ((gS σ7 16 7) - (1 : Int32)) 40) ∧ am_X ri am_Lx IX4_unfolds (d + 43 + 1) 95 [some (.ref 16), some (.int (nI p)), some (.ref 12), some (.ref t), some (.int (nI fl)), some (.int (nI (j + 1) + (1 : Int32))), none, none] [] (wA σ7 19 (((gS σ7 16 7) - (1 : Int32))).toNatClampNeg ((gA σ7 19 (((gS σ7 16 7) - (1 : Int32))).toNatClampNeg) + (1 : Int32))) Q)) hcy hv2 hu2 (by omega) (by omega) (fun _ w hw => ⟨fun _ => addgo _, fun e => by rw [e] at hw; exact absurd hw (by decide)⟩) (fun _ => ⟨fun w => absurd rfl w, fun _ => ?_⟩) (fun _ w hw => ⟨fun _ => addgo _, fun e => by rw [e] at hw; exact absurd hw (by decide)⟩)
        · rw [show d + 42 - (pts x)[j].length + (pts x)[j].length + 1 = d + 43 by omega] at key
          exact key
        · have hM1 : N.length ≤ M.length := by
            obtain ⟨-, -, -, c, l, g1, -⟩ := hU
            omega
          obtain ⟨s, hs⟩ : ∃ s, M.length = s + 1 := ⟨M.length - 1, by omega⟩
          rw [hS, hs, nI_pred, nI_clamp (by omega), nI_1]
          have hsl : s < M.length := by omega
          obtain ⟨-, -, t', m, o, -, -, b3', b4', b5', -⟩ := hU.1.2.1 s _ (List.getElem?_eq_getElem hsl)
          rw [b3', nI_1]
          refine ⟨vp_in_nI (by omega) (by omega), vp_in_nI (by omega) (by omega), ih (j + 1 + 1) M _ (by omega) (fr_wA f (by simp)) ?_⟩
          exact Ul_times hp hil h8 hk2 hU hy m (by rw [show M.length - 1 = s by omega]; exact b3') _ (by rw [show M.length - 1 = s by omega])
      refine ⟨Rp_T hu2, fun _ => h162, fun _ => ?_⟩
      have hU' := hU
      obtain ⟨-, -, -, c, l, g1, g2, g3, g4, g5, g6, g7, g8, g9, g10⟩ := hU'
      refine x_idOf (d := d) hIσ.1 hD40 hcy (by have := hfy.1; omega) hu2 (fun a ha => ⟨fun _ => ⟨vp_in_nI (by omega) (by omega), ?_⟩, fun w => ?_⟩) (fun _ => ⟨fun w => absurd rfl w, fun _ => H0 σ f⟩)
      · have hal := (List.getElem?_eq_some_iff.mp ha).1
        rw [nI_clamp (by omega), g7]
        refine r_with (d := d + 41) hk4 g8 (by omega) (by omega) ⟨vp_in_nI (by omega) (by omega), ?_⟩
        rw [nI_1]
        exact ih (i + 1) M _ (by omega) (fr_wJ f (by simp)) (Ul_ground hp hil h8 hk2 (a := a + 1) (by omega) hU g7 g8 g9 _ rfl)
      · have hal := (List.getElem?_eq_some_iff.mp ha).1
        exact absurd w (nI_ne0 (by omega) (by omega))
/-- one TERM is unfolded -/
theorem x_unfolds {σ : am_S} (hp : p < N.length) (hP : Pn N p (1 + 8 * p) σ) (hpot : N.length + pot N p ≤ 40) (hx : N[p]? = some x) (hI : Ins D σ)
    (H1 : ∀ M τ, fU σ τ → Pn M (p + 1) (1 + 8 * (p + 1)) τ → (∀ q, q < N.length → M[q]? = N[q]?) → N.length ≤ M.length → M.length + pot M (p + 1) ≤ 40 → Q 1 τ) (H0 : ∀ τ, fU σ τ → Q 0 τ) : am_K ri am_Lx IX4_unfolds (d + 44) [.ref 16, .int (nI p), .ref 12] σ Q := by
  obtain ⟨hcx, hfx, t, m, o, p1, p2, p3, p4, p5, p6, p7⟩ := hP.2.1 p x hx
  have hN40 : N.length ≤ 40 := by omega
  have h8 := (fits_pts hcx hfx).1
  obtain ⟨ex, hloc, hcp⟩ := Can_pts hcx
  have hwp : ∀ y ∈ pts x, wf y := fun y hy => Can_wf (hcp y hy)
  obtain ⟨hk4, -⟩ := loc_bd hloc
  have hl40 := hfx.1
  have hru' : Rp σ t (node (kd x) (nm x) (pts x)) := by rw [← ex]; exact p2
  obtain ⟨b, b1, b2, b3, b4, b5, b6, b7⟩ := Rp_out hwp hru'
  have hlen : x.length = 1 + (pts x).flatten.length := by
    have := node_len (kd x) (nm x) (pts x)
    rwa [← ex] at this
  have hpc := pot_cons hx
  -- the state behind the first writes
  generalize hσ1 : wA (wA (wA σ 21 p (nI N.length)) 22 p 0) 18 p 0 = σ1
  have f1 : fU σ σ1 := by rw [← hσ1]; exact fr_wA (fr_wA (fr_wA fr_rfl (by simp)) (by simp)) (by simp)
  have e21 : ∀ q, gA σ1 21 q = if q = p then nI N.length else gA σ 21 q := fun q => by
    rw [← hσ1, wA_ne (by omega), wA_ne (by omega)]
    by_cases e : q = p
    · rw [if_pos e, e, wA_at]
    · rw [if_neg e, wA_ne (by omega)]
  have e22 : ∀ q, gA σ1 22 q = if q = p then 0 else gA σ 22 q := fun q => by
    rw [← hσ1, wA_ne (by omega)]
    by_cases e : q = p
    · rw [if_pos e, e, wA_at]
    · rw [if_neg e, wA_ne (by omega), wA_ne (by omega)]
  have e18 : ∀ q, gA σ1 18 q = if q = p then 0 else gA σ 18 q := fun q => by
    rw [← hσ1]
    by_cases e : q = p
    · rw [if_pos e, e, wA_at]
    · rw [if_neg e, wA_ne (by omega), wA_ne (by omega), wA_ne (by omega)]
  have eo : ∀ n q, n ≠ 21 → n ≠ 22 → n ≠ 18 → gA σ1 n q = gA σ n q := fun n q a b c => by rw [← hσ1, wA_ne (by omega), wA_ne (by omega), wA_ne (by omega)]
  have eP : gP σ1 = gP σ := by rw [← hσ1]; rfl
  have eS : gS σ1 = gS σ := by rw [← hσ1]; rfl
  have eJ : gJ σ1 = gJ σ := by rw [← hσ1]; rfl
  generalize hσ2 : wJ σ1 23 p (lN (rE (kd x) [])) = σ2
  have f2 : fU σ σ2 := by rw [← hσ2]; exact fr_wJ f1 (by simp)
  have a2 : gA σ2 = gA σ1 := by rw [← hσ2]; rfl
  have s2 : gS σ2 = gS σ := by rw [← hσ2]; exact eS
  have P2 : gP σ2 = gP σ := by rw [← hσ2]; exact eP
  have j2 : ∀ q, gJ σ2 23 q = if q = p then lN (rE (kd x) []) else gJ σ 23 q := fun q => by
    rw [← hσ2]
    by_cases e : q = p
    · rw [if_pos e, e, wJ_at]
    · rw [if_neg e, wJ_ne (by omega), eJ]
  have hq0 : ∀ (τ : am_S) (B : Nat), fU σ τ → gP τ = gP σ → gA τ 19 = gA σ 19 → gA τ 20 = gA σ 20 → 1 + 8 * p ≤ B → ∀ q y, N[q]? = some y → Can y ∧ fits y ∧ pt0 B τ q y := fun τ B f c1 c2 c3 hB q y hy => by
    obtain ⟨a1, a2, t', m', o', d1, d2, d3, d4, d5, d6, d7⟩ := hP.2.1 q y hy
    exact ⟨a1, a2, t', m', o', by rw [c1]; exact d1, Rp_fU f d2, by rw [c2]; exact d3, d4, by omega, by rw [c3]; exact d6, d7⟩
  have hq1 : ∀ (τ : am_S), (∀ q, q ≠ p → gA τ 21 q = gA σ 21 q ∧ gA τ 22 q = gA σ 22 q ∧ gA τ 18 q = gA σ 18 q ∧ gJ τ 23 q = gJ σ 23 q) → gA τ 20 = gA σ 20 → ∀ q y, q < p → N[q]? = some y → pt1 τ N.length q y := fun τ c1 c3 q y hq hy => by
    obtain ⟨f, k, id, l, d1, d2, d3, d4, d5, d6, d7, d8, d9, d10⟩ := hP.2.2 q y hq hy
    obtain ⟨k1, k2, k3, k4⟩ := c1 q (by omega)
    exact ⟨f, k, id, l, k1.trans d1, k2.trans d2, d3, d4, fun c' w1 w2 => by rw [c3]; exact d5 c' w1 w2, k3.trans d6, d7, k4.trans d8, d9, d10⟩
  have hU0 : Ul N p x 0 N σ2 := by
    refine ⟨⟨by rw [s2]; exact hP.1, hq0 σ2 (1 + 8 * p + 0) f2 P2 (by rw [a2]; exact funext fun q => eo 19 q (by omega) (by omega) (by omega)) (by rw [a2]; exact funext fun q => eo 20 q (by omega) (by omega) (by omega)) (by omega), hq1 σ2 (fun q hq => ⟨by rw [a2, e21, if_neg hq], by rw [a2, e22, if_neg hq], by rw [a2, e18, if_neg hq], by rw [j2, if_neg hq]⟩) (by rw [a2]; exact funext fun q => eo 20 q (by omega) (by omega) (by omega))⟩, fun _ _ => rfl, ?_, 0, [], rfl, by omega, fun _ => rfl, by rw [a2, e21, if_pos rfl], by rw [a2, e22, if_pos rfl]; rfl, by rw [a2, e18, if_pos rfl]; rfl, by rw [j2, if_pos rfl], rG_nil, by simp, fun q w1 w2 => by omega⟩
    rw [List.drop_zero]
    omega
  have fin : ∀ M τ, fU σ2 τ → Ul N p x (pts x).length M τ → Q 1 τ := fun M τ f hU => by
    obtain ⟨⟨h1, h2, h3⟩, h4, h5, c, l, g1, g2, g3, g4, g5, g6, g7, g8, g9, g10⟩ := hU
    refine H1 M τ (fr_trans f2 f) ⟨h1, fun q y hy => ?_, fun q y hq hy => ?_⟩ h4 (by omega) (by omega)
    · obtain ⟨c1, c2, t', m', o', d1, d2, d3, d4, d5, d6, d7⟩ := h2 q y hy
      exact ⟨c1, c2, t', m', o', d1, d2, d3, d4, by omega, d6, d7⟩
    · by_cases e : q = p
      · subst e
        rw [h4 q hp, hx] at hy
        have ey : x = y := Option.some.inj hy
        subst ey
        exact ⟨N.length, c, 0, l, g4, g5, by omega, by omega, fun c' w1 w2 => g10 c' w1 (by omega), g6, by omega, g7, g8, fun e _ => g3 e⟩
      · exact h3 q y (by omega) hy
  -- a TERM without VARIABLES
  have grd : am_K ri am_Lx IX1_idOf (d + 43) [.ref 12, .ref t] σ2 (fun r3 σ3 => (vp_in (nI p) 40) ∧ (vp_in (nI p) 40) ∧ ((gA (wA σ3 18 p r3) 18 p) = 0 → Q (0 : Int32) (wA σ3 18 p r3)) ∧ (¬ (gA (wA σ3 18 p r3) 18 p) = 0 → Q (1 : Int32) (wA σ3 18 p r3))) := by
    have hI2 := Ins_fU hI f2
    have hD40 := hI2.2.1
    refine x_idOf (d := d) hI2.1 hD40 hcx (by omega) (Rp_fU f2 p2) (fun a ha => ?_) (fun _ => ?_)
    · have hal := (List.getElem?_eq_some_iff.mp ha).1
      rw [wA_at]
      refine ⟨vp_in_nI (by omega) (by omega), vp_in_nI (by omega) (by omega), fun w => absurd w (nI_ne0 (by omega) (by omega)), fun _ => ?_⟩
      have f3 : fU σ (wA σ2 18 p (nI (a + 1))) := fr_wA f2 (by simp)
      have ee : ∀ n q, ¬ (n = 18 ∧ q = p) → gA (wA σ2 18 p (nI (a + 1))) n q = gA σ1 n q := fun n q w => by rw [wA_ne w, a2]
      refine H1 N _ f3 ⟨by show gS σ2 16 7 = _; rw [s2]; exact hP.1, hq0 _ _ f3 P2 (funext fun q => by rw [ee 19 q (by omega), eo 19 q (by omega) (by omega) (by omega)]) (funext fun q => by rw [ee 20 q (by omega), eo 20 q (by omega) (by omega) (by omega)]) (by omega), fun q y hq hy => ?_⟩ (fun _ _ => rfl) (Nat.le_refl _) (by omega)
      by_cases e : q = p
      · subst e
        rw [hx] at hy
        have ey : x = y := Option.some.inj hy
        subst ey
        exact ⟨N.length, 0, a + 1, [], by rw [ee 21 q (by omega), e21, if_pos rfl], by rw [ee 22 q (by omega), e22, if_pos rfl]; rfl, by omega, by omega, fun c' w1 w2 => by omega, by rw [wA_at], by omega, by show gJ σ2 23 q = _; rw [j2, if_pos rfl], rG_nil, fun _ w => by omega⟩
      · exact hq1 _ (fun q' hq' => ⟨by rw [ee 21 q' (by omega), e21, if_neg hq'], by rw [ee 22 q' (by omega), e22, if_neg hq'], by rw [ee 18 q' (by omega), e18, if_neg hq'], by show gJ σ2 23 q' = _; rw [j2, if_neg hq']⟩) (funext fun q' => by rw [ee 20 q' (by omega), eo 20 q' (by omega) (by omega) (by omega)]) q y (by omega) hy
    · rw [wA_at]
      exact ⟨vp_in_nI (by omega) (by omega), vp_in_nI (by omega) (by omega), fun _ => H0 _ (fr_wA f2 (by simp)), fun w => absurd rfl w⟩
  refine vX4_unfolds ⟨vp_in_nI (by omega) (by omega), ?_⟩
  rw [nI_clamp (by omega), hP.1]
  refine o_s p1 ⟨Rp_T p2, ?_⟩
  rw [b1]
  have hvp : vp_in (nI p) 40 := vp_in_nI (by omega) (by omega)
  have hT1 : am_isT am_Lx (wA (wA (wA σ 21 p (nI N.length)) 22 p 0) 18 p 0) t := by rw [hσ1]; exact Rp_T (Rp_fU f1 p2)
  have hT2 : am_isT am_Lx σ2 t := Rp_T (Rp_fU f2 p2)
  refine ⟨fun z => ⟨hvp, hvp, hvp, hT1, ?_⟩, fun z => ⟨hvp, hvp, hvp, hT1, ?_⟩⟩
  · have hk : kd x ≤ 2 := (nI_leI (b := 2) (by omega) (by decide)).mp z
    rw [hσ1]
    refine r_empty (d := d + 42) hk4 ?_
    rw [hσ2]
    exact ⟨hvp, hT2, fun _ => x_u95 hp hN40 hcx hfx (Rp_fU f2 p2) (Ins_fU hI f2) (Or.inl ⟨rfl, hk⟩) fin (fun τ f => H0 τ (fr_trans f2 f)) (pts x).length 0 N σ2 (by omega) fr_rfl hU0, fun _ => grd⟩
  · have hk : 2 < kd x := by
      rcases Nat.lt_or_ge 2 (kd x) with y | y
      · exact y
      · exact absurd (nI_le (b := 2) y (by decide)) z
    rw [hσ1]
    refine r_empty (d := d + 42) hk4 ?_
    rw [hσ2]
    exact ⟨hvp, hT2, fun _ => x_u95 hp hN40 hcx hfx (Rp_fU f2 p2) (Ins_fU hI f2) (Or.inr ⟨rfl, hk⟩) fin (fun τ f => H0 τ (fr_trans f2 f)) (pts x).length 0 N σ2 (by omega) fr_rfl hU0, fun _ => grd⟩
end UNF
