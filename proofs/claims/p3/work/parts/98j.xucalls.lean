/-! ===== the class: fill, unified, unify, bases, base, set ===== -/
section UC
variable {σ τ : am_S} {U : List (Tm × Int)} {k : Nat} {V : Sv}
theorem pxs_ne {j s : Nat} : ∀ {m c : Nat}, c < m → s.testBit c = true → 0 < ((uB U).getD c []).getD j 0 → pxs U j s m ≠ []
  | 0, c, h, _, _ => by omega
  | m + 1, c, h, h1, h2 => by
    intro e
    simp only [pxs] at e
    rw [List.append_eq_nil_iff] at e
    by_cases q : c = m
    · subst q
      have e2 := congrArg List.length e.2
      rw [List.length_replicate] at e2
      unfold pcn at e2
      rw [if_pos h1] at e2
      simp at e2
      simp at h2
      omega
    · exact pxs_ne (m := m) (c := c) (by omega) h1 h2 e.1
theorem uG_mem (hU : okU k U) {s : Nat} (h : s ∈ uG U) : gdS (covB (uB U) (vn U)) (grB (uB U) (vn U) U.length) (uB U).length (allB (vn U)) (allL (vn U) U.length) s := by
  have h6 := hU.2.1
  have hn := hU.1
  refine (gls_mem ?_ ?_ fun c _ => ?_).mp h
  · have := bits_lt (a := allB (vn U)) (k := 6) fun j hj => by have := (allB_tb _ j).mp hj; omega
    omega
  · have := bits_lt (a := allL (vn U) U.length) (k := 16) fun j hj => by have := (allL_tb hn j).mp hj; omega
    omega
  · rcases grf_or ((uB U).getD c []) (vn U) (U.length - vn U) with e | e | ⟨g, e, _⟩
    · exact Or.inl e
    · exact Or.inr (by show -1 ≤ grf _ _ _; rw [e]; decide)
    · exact Or.inr (by show -1 ≤ grf _ _ _; rw [e]; omega)
theorem uG_pxs (hU : okU k U) {s j : Nat} (h : s ∈ uG U) (hj : j < vn U) : pxs U j s (uB U).length ≠ [] := by
  obtain ⟨c, c1, c2, c3⟩ := (uG_mem hU h).2.2.2.2 j ((allB_tb _ j).mpr hj)
  exact pxs_ne c1 c2 ((cvf_tb _ _ _).mp c3).2
theorem thU_can (hk : k = 3 ∨ k = 4) (hU : okU k U) (hm : (uB U).length ≤ 16) {s : Nat} (h : s ∈ uG U) : ∀ {j a : Nat}, j ≤ vn U → a < 22 → Can (thU k U s j a)
  | 0, a, _, ha => can_v ha
  | j + 1, a, hj, ha => by
    simp only [thU]
    split
    · exact Can_join hk (fun z hz => (pxs_ok hU hk hm z hz).1) (uG_pxs hU h (by omega))
    · exact thU_can hk hU hm h (by omega) ha
abbrev flW (c s : Nat) (σ τ : am_S) : Prop := gw [(3, 3)] [47] [] [2, 5, 6] c s σ τ
theorem x_fill {i s d : Nat} {Q : Unit → am_S → Prop} (hk : k = 3 ∨ k = 4) (hU : okU k U) (hu : uX k U σ) (hl : lts σ) (h3 : gS σ 3 3 = nI 0) (hb : bud 12 78 σ) (hs : (uG U)[i]? = some s) (H : ∀ τ, flW 12 78 σ τ → gS τ 3 3 = nI 0 → (∀ a, a < 22 → Ro τ (gP τ 2 a) (thU k U s (vn U) a)) → Q () τ) : am_K ru am_Lx IX9_fill (d + 45) [.ref 35, .ref 2, .int (nI i), .ref 3] σ Q := by
  have hsm := get_mem hs
  have hv6 := hU.2.1
  have hvn := vn_le U
  have hn := hU.1
  have hm := hu.2.2.2.2.1
  have hs16 : s < 2 ^ 16 := by
    have h1 := (uG_mem hU hsm).1
    have := Nat.pow_le_pow_right (n := 2) (by decide) hm
    omega
  have out : ∀ q j τ, j + q = vn U → flW (2 * j) (13 * j) σ τ → gS τ 3 3 = nI 0 → (∀ a, a < 22 → Ro τ (gP τ 2 a) (thU k U s j a)) → am_X ru am_Lx IX9_fill (d + 45) 36 [some (.ref 35), some (.ref 2), some (.int (nI i)), some (.ref 3), some (.int (nI s)), some (.int (nI j)), none] [] τ Q := by
    intro q
    induction q with
    | zero =>
      intro j τ hj g1 g2 g3
      obtain rfl : j = vn U := by omega
      have ut := uX_gw hu g1 (by decide) (by decide) (by decide)
      exact vX9_fill_36 (pk_le (vn U) (vn U) (fun _ => H τ (gw_mono g1 (by decide) (by decide) (by decide) (by decide) (by omega) (by omega)) g2 g3) (fun h => by omega) ut.2.1.2.1 rfl (by omega) (by omega))
    | succ q ih =>
      intro j τ hj g1 g2 g3
      have hjl : j < U.length := by omega
      have ut := uX_gw hu g1 (by decide) (by decide) (by decide)
      obtain ⟨⟨t, t1, t2⟩, _⟩ := ut.2.1.2.2 j _ (List.getElem?_eq_getElem hjl)
      have hmem := List.getElem_mem hjl
      have hk0 := (hU.2.2.2.2.1 j _ (List.getElem?_eq_getElem hjl)).mp (by omega)
      have hv := hU.2.2.2.2.2 _ hmem hk0
      have e1 := (Rp_kd t2).2.1
      refine vX9_fill_36 (pk_le (vn U) j (fun h => by omega) (fun _ => ⟨pk_in j 16 (by omega), ?_⟩) ut.2.1.2.1 rfl (by omega) (by omega))
      rw [nI_clamp (n := j) (by omega), nI_1]
      refine o_s t1 ⟨Rp_T t2, ?_⟩
      rw [e1, nI_clamp (n := nm U[j].1) (by omega)]
      refine pk_le 22 (nm U[j].1) (fun h => by omega) (fun _ => ?_)
      refine x_put (d := d) hk hU ut (lts_gw hl g1 (by decide)) g2 (bud_mono (bud_gw (c := 2 * j) (s := 13 * j) (c' := 12 - 2 * j) (s' := 78 - 13 * j) (bud_mono hb (by omega) (by omega)) g1) (by omega) (by omega)) hjl hs16 (uG_pxs hU hsm (by omega)) fun o τ2 k1 k2 k3 => ?_
      have g4 : flW (2 * (j + 1)) (13 * (j + 1)) σ τ2 := by
        have := gw_trans g1 (gw_mono (S' := [(3, 3)]) (A' := [47]) (J' := []) (P' := [2, 5, 6]) (c' := 2) (s' := 13) k1 (by decide) (by decide) (by decide) (by decide) (Nat.le_refl _) (Nat.le_refl _))
        exact gw_mono this (fun _ h => h) (fun _ h => h) (fun _ h => h) (fun _ h => h) (by omega) (by omega)
      have nx : ∀ o', o' = o → am_X ru am_Lx IX9_fill (d + 45) 36 [some (.ref 35), some (.ref 2), some (.int (nI i)), some (.ref 3), some (.int (nI s)), some (.int (nI (j + 1))), none] [] (wP τ2 2 (nm U[j].1) o') Q := by
        intro o' e
        subst e
        have k4 : gw [] [] [] [2] 0 0 τ2 (wP τ2 2 (nm U[j].1) o') := gw_wP gw_rfl (by decide) (by omega)
        refine ih (j + 1) _ (by omega) (gw_wP g4 (by decide) (by omega)) k2 fun a ha => ?_
        have eU : U.getD j ([], 0) = U[j] := by
          rw [List.getD_eq_getElem?_getD, List.getElem?_eq_getElem hjl]
          rfl
        simp only [thU]
        rw [eU]
        by_cases e : a = nm U[j].1
        · subst e
          rw [if_pos rfl, wP_at]
          exact Ro_ext k3 (gw_ext k4)
        · rw [if_neg e, wP_ne (by omega), gw_P k1 (by omega) (by decide)]
          exact Ro_ext (Ro_ext (g3 a ha) (gw_ext k1)) (gw_ext k4)
      constructor
      · intro e
        exact ⟨pk_in (nm U[j].1) 22 (by omega), nx _ e.symm⟩
      · intro t' e
        rw [e] at k3
        exact ⟨pk_in (nm U[j].1) 22 (by omega), Rp_T (Ro_some k3).2, nx _ e.symm⟩
  have first : ∀ q a τ, a + q = 22 → flW 0 0 σ τ → gS τ 3 3 = nI 0 → (∀ b, b < a → Ro τ (gP τ 2 b) (node 0 b [])) → am_X ru am_Lx IX9_fill (d + 45) 3 [some (.ref 35), some (.ref 2), some (.int (nI i)), some (.ref 3), some (.int (nI a)), none, none] [] τ Q := by
    intro q
    induction q with
    | zero =>
      intro a τ ha g1 g2 g3
      obtain rfl : a = 22 := by omega
      have ut := uX_gw hu g1 (by decide) (by decide) (by decide)
      refine vX9_fill_3 (pk_le 22 22 (fun _ => ?_) (fun h => by omega))
      refine x_bitsOf (d := d + 41) ut.2.2.2.2.2.2.1 hs fun τ2 k1 => ?_
      refine out (vn U) 0 τ2 (by omega) (gw_trans g1 (gw_mono k1 (by decide) (by decide) (by decide) (by decide) (Nat.le_refl _) (Nat.le_refl _))) ?_ fun b hb2 => ?_
      · rw [gw_S k1 (by omega) (by decide)]; exact g2
      · rw [gw_P k1 (by omega) (by decide)]
        exact Ro_ext (g3 b hb2) (gw_ext k1)
    | succ q ih =>
      intro a τ ha g1 g2 g3
      refine vX9_fill_3 (pk_le 22 a (fun h => by omega) (fun _ => ?_))
      rw [nI_1, nI_clamp (n := a) (by omega)]
      refine x_variable (d := d + 43) (lts_gw hl g1 (by decide)) (by omega) fun o ho => ?_
      have nx : ∀ o', o' = o → am_X ru am_Lx IX9_fill (d + 45) 3 [some (.ref 35), some (.ref 2), some (.int (nI i)), some (.ref 3), some (.int (nI (a + 1))), none, none] [] (wP τ 2 a o') Q := by
        intro o' e
        subst e
        have k4 : gw [] [] [] [2] 0 0 τ (wP τ 2 a o') := gw_wP gw_rfl (by decide) (by omega)
        refine ih (a + 1) _ (by omega) (gw_wP g1 (by decide) (by omega)) g2 fun b hb2 => ?_
        by_cases e : b = a
        · subst e
          rw [wP_at]
          exact Ro_ext ho (gw_ext k4)
        · rw [wP_ne (by omega)]
          exact Ro_ext (g3 b (by omega)) (gw_ext k4)
      constructor
      · intro e
        exact ⟨pk_in a 22 (by omega), nx _ e.symm⟩
      · intro t' e
        rw [e] at ho
        exact ⟨pk_in a 22 (by omega), Rp_T (Ro_some ho).2, nx _ e.symm⟩
  exact vX9_fill (first 22 0 σ (by omega) gw_rfl h3 fun b hb2 => absurd hb2 (Nat.not_lt_zero _))
/-- the class's unifiers, if there are any -/
def Ux (g : Option (Nat × List (Tm × Int))) (σ : am_S) : Prop := gS σ 36 0 = nI 16 ∧ gS σ 36 1 = nI 16 ∧ match g with
  | none => gS σ 35 10 = nI 0
  | some p => (p.1 = 3 ∨ p.1 = 4) ∧ okU p.1 p.2 ∧ uX p.1 p.2 σ
noncomputable def gL (g : Option (Nat × List (Tm × Int))) : List Nat := match g with
  | none => []
  | some p => uG p.2
theorem Ux_gw {g : Option (Nat × List (Tm × Int))} {S : List (Nat × Nat)} {A J P : List Nat} {c s : Nat} (h : Ux g σ) (w : gw S A J P c s σ τ) (h1 : ∀ x ∈ S, x.1 ≠ 35 ∧ x.1 ≠ 36) (h2 : ∀ x ∈ A, x ≠ 42 ∧ x ≠ 44 ∧ x ≠ 45 ∧ x ≠ 46) (h3 : 43 ∉ P) : Ux g τ := by
  have n35 : ∀ j, (35, j) ∉ S := fun j z => (h1 _ z).1 rfl
  have n36 : ∀ j, (36, j) ∉ S := fun j z => (h1 _ z).2 rfl
  refine ⟨by rw [gw_S w (by omega) (n36 _)]; exact h.1, by rw [gw_S w (by omega) (n36 _)]; exact h.2.1, ?_⟩
  have h' := h.2.2
  cases g with
  | none => show gS τ 35 10 = nI 0; rw [gw_S w (by omega) (n35 _)]; exact h'
  | some p => exact ⟨h'.1, h'.2.1, uX_gw h'.2.2 w h1 h2 h3⟩
theorem gL_len {g : Option (Nat × List (Tm × Int))} (h : Ux g σ) : gS σ 35 10 = nI (gL g).length ∧ (gL g).length ≤ 65536 := by
  have h' := h.2.2
  cases g with
  | none => exact ⟨h', by simp [gL]⟩
  | some p =>
    refine ⟨h'.2.2.2.2.2.2.2.2.2.2, ?_⟩
    have h1 := gls_len (cov := covB (uB p.2) (vn p.2)) (gr := grB (uB p.2) (vn p.2) p.2.length) (uB p.2).length (allB (vn p.2)) (allL (vn p.2) p.2.length)
    have h2 := Nat.pow_le_pow_right (n := 2) (by decide) h'.2.2.2.2.2.2.1
    exact Nat.le_trans h1 h2
theorem x_unify {s t a : Int32} {d : Nat} {Q : Int32 → am_S → Prop} (hV : Sx σ V) (h0 : gS σ 36 0 = nI 16) (h1 : gS σ 36 1 = nI 16) (hb : ¬ (isSl s ∧ isSl t ∧ (0 ≤ a.toInt ∧ a.toInt ≤ 1)) → Q (-1) σ) (hn : ∀ k l, k < 16 → l < 16 → s = nI k → t = nI l → (0 ≤ a.toInt ∧ a.toInt ≤ 1) → (V k = none ∨ V l = none) → Q (-2) σ) (ht : ∀ k l x y b, k < 16 → l < 16 → s = nI k → t = nI l → V k = some x → V l = some y → b < 2 → a = nI b → ¬ (takP (3 + b) x ∧ takP (3 + b) y) → Q (-3) σ)
    (hF : ∀ k l x y b, k < 16 → l < 16 → s = nI k → t = nI l → V k = some x → V l = some y → b < 2 → a = nI b → takP (3 + b) x → takP (3 + b) y → 16 < (uB (uN (uP (3 + b) x y))).length → ∀ τ, ufW σ τ → gS τ 35 10 = nI 0 → Q (-4) τ)
    (hG : ∀ k l x y b, k < 16 → l < 16 → s = nI k → t = nI l → V k = some x → V l = some y → b < 2 → a = nI b → takP (3 + b) x → takP (3 + b) y → (uB (uN (uP (3 + b) x y))).length ≤ 16 → ∀ τ, ufW σ τ → okU (3 + b) (uN (uP (3 + b) x y)) → uX (3 + b) (uN (uP (3 + b) x y)) τ → Q (nI (uG (uN (uP (3 + b) x y))).length) τ) : am_K ri am_Lx IX10_unify (d + 45) [.ref 0, .int s, .int t, .int a] σ Q := by
  refine vX10_unify (xs_slot (d := d + 43) (fun k hk e => ⟨fun z => absurd z (by decide), fun _ => ?_⟩) (fun h => ⟨fun _ => hb fun z => h z.1, fun z => absurd rfl z⟩))
  refine xs_slot (d := d + 43) (fun l hl e2 => ⟨fun z => absurd z (by decide), fun _ => ?_⟩) (fun h => ⟨fun _ => hb fun z => h z.2.1, fun z => absurd rfl z⟩)
  refine ⟨_, _, x_isSymbol (d := d + 43) a, ?_⟩
  by_cases hs : 0 ≤ a.toInt ∧ a.toInt ≤ 1
  · rw [b01_t hs]
    obtain ⟨b, _, hb1, ea⟩ := i_2 (n := a) (lo := 0) (hi := 1) (by omega) ⟨hs.1, hs.2⟩
    refine ⟨fun _ => ⟨by rw [e]; exact vp_in_nI hk (by decide), ?_⟩, fun z => absurd z (by decide)⟩
    rw [e, e2, nI_clamp (n := k) (by omega), nI_clamp (n := l) (by omega)]
    rcases hV k hk with ⟨v1, v2⟩ | ⟨x, u, v1, v2, hc, hf, hr⟩
    · refine o_n v2 ⟨vp_in_nI hl (by decide), ?_⟩
      have := hn k l hk hl e e2 hs (Or.inl v1)
      exact ⟨fun _ => this, fun _ _ => this⟩
    · refine o_s v2 ⟨vp_in_nI hl (by decide), ?_⟩
      rcases hV l hl with ⟨w1, w2⟩ | ⟨y, w, w1, w2, hc2, hf2, hr2⟩
      · exact o_n w2 (hn k l hk hl e e2 hs (Or.inr w1))
      · refine o_s w2 ?_
        have hk34 : 3 + b = 3 ∨ 3 + b = 4 := by omega
        rw [ea, show (3 : Int32) = nI 3 from rfl, nI_add]
        refine x_takes (d := d + 42) hk34 hc hf hr (fun tx => ⟨fun z => absurd z (by decide), fun _ => ?_⟩) (fun h => ⟨fun _ => ht k l x y b hk hl e e2 v1 w1 (by omega) ea fun z => h z.1, fun z => absurd rfl z⟩)
        refine x_takes (d := d + 42) hk34 hc2 hf2 hr2 (fun ty => ⟨fun _ => ?_, fun z => absurd z (by decide)⟩) (fun h => ⟨fun z => absurd rfl z, fun _ => ht k l x y b hk hl e e2 v1 w1 (by omega) ea fun z => h z.2⟩)
        exact x_ufound (d := d) hk34 hc hf hc2 hf2 tx ty hr hr2 h0 h1 (fun τ g1 g2 g3 => hF k l x y b hk hl e e2 v1 w1 (by omega) ea tx ty g2 τ g1 g3) (fun τ g1 g2 => hG k l x y b hk hl e e2 v1 w1 (by omega) ea tx ty g2.2.2.2.2.1 τ g1 (uN_ok hk34 hc hf hc2 hf2 tx ty) g2)
  · rw [b01_f hs]
    exact ⟨fun z => absurd rfl z, fun _ => hb fun z => hs z.2.2⟩
theorem x_set {g : Option (Nat × List (Tm × Int))} {i : Int32} {d : Nat} {Q : Int32 → am_S → Prop} (h : Ux g σ) (hb : ¬ (0 ≤ i.toInt ∧ i.toInt < (gL g).length) → Q (-1) σ) (h1 : ∀ j s, i = nI j → (gL g)[j]? = some s → ∀ τ, w47 σ τ → Q (nI s) τ) : am_K ri am_Lx IX10_set (d + 4) [.ref 0, .int i] σ Q := by
  obtain ⟨l1, l2⟩ := gL_len h
  refine vX10_set ⟨fun z => hb fun c => by rw [i_lt, l_0] at z; omega, fun z => ?_⟩
  rw [l1]
  refine ⟨fun z2 => ?_, fun z2 => hb fun c => z2 ?_⟩
  · rw [i_lt, l_0] at z
    rw [i_lt, nI_toInt (by omega)] at z2
    obtain ⟨j, _, hj, e⟩ := i_2 (n := i) (lo := 0) (hi := (gL g).length - 1) (by omega) ⟨by omega, by omega⟩
    subst e
    rw [nI_toInt (by omega)] at z2
    have hjl : j < (gL g).length := by omega
    have hs := List.getElem?_eq_getElem hjl
    have h' := h.2.2
    cases g with
    | none => simp [gL] at hjl
    | some p => exact x_bitsOf (d := d) h'.2.2.2.2.2.2.2.2.1 hs fun τ g1 => h1 j _ rfl hs τ g1
  · rw [i_lt, nI_toInt (by omega)]
    exact c.2
theorem x_bases {g : Option (Nat × List (Tm × Int))} {i : Int32} {d : Nat} {Q : Int32 → am_S → Prop} (h : Ux g σ) (hb : ¬ (0 ≤ i.toInt ∧ i.toInt ≤ 2) → Q (-1) σ) (hn : (0 ≤ i.toInt ∧ i.toInt ≤ 2) → gL g = [] → Q (-2) σ) (h1 : ∀ p, g = some p → gL g ≠ [] → (i = nI 0 → Q (nI (uB p.2).length) σ) ∧ (i = nI 1 → Q (nI (usf (grB (uB p.2) (vn p.2) p.2.length) (uB p.2).length)) σ) ∧ (i = nI 2 → Q (nI p.2.length) σ)) : am_K ri am_Lx IX10_bases (d + 1) [.ref 0, .int i] σ Q := by
  obtain ⟨l1, l2⟩ := gL_len h
  refine vX10_bases ⟨fun z => hb fun c => by rw [i_lt, l_0] at z; omega, fun z => ⟨fun z2 => ?_, fun z2 => hb fun c => z2 (by rw [i_le, l_2]; exact c.2)⟩⟩
  rw [i_lt, l_0] at z
  rw [i_le, l_2] at z2
  rw [l1]
  refine ⟨fun z3 => ?_, fun z3 => hn ⟨by omega, by omega⟩ (List.length_eq_zero_iff.mp ((nx_z (by omega)).mp z3))⟩
  have hne : gL g ≠ [] := fun e => z3 (by rw [e]; rfl)
  have h' := h.2.2
  cases g with
  | none => exact absurd rfl hne
  | some p =>
    obtain ⟨q0, q1, q2⟩ := h1 p rfl hne
    obtain ⟨a1, a2, a3, a4, a5, a6, a7, a8, a9⟩ := h'.2.2
    rw [a2.1, a8, a6.1]
    refine ⟨fun n0 => ⟨fun n1 => q2 ?_, fun e => q1 e⟩, fun e => q0 e⟩
    rw [i_eq] at n0 n1 ⊢
    rw [l_0] at n0
    rw [l_1] at n1
    rw [nI_toInt (by omega)]
    omega
theorem x_base {g : Option (Nat × List (Tm × Int))} {i j : Int32} {d : Nat} {Q : Int32 → am_S → Prop} (h : Ux g σ) (hb : gL g = [] → Q (-1) σ) (h0 : ∀ p, g = some p → gL g ≠ [] → ¬ (0 ≤ i.toInt ∧ i.toInt < (uB p.2).length ∧ 0 ≤ j.toInt ∧ j.toInt < p.2.length) → Q (-1) σ) (h1 : ∀ p a b, g = some p → gL g ≠ [] → a < (uB p.2).length → b < p.2.length → i = nI a → j = nI b → Q (nI (((uB p.2).getD a []).getD b 0)) σ) : am_K ri am_Lx IX10_base (d + 2) [.ref 0, .int i, .int j] σ Q := by
  obtain ⟨l1, l2⟩ := gL_len h
  refine vX10_base ?_
  rw [l1]
  refine pk_le (gL g).length 0 (fun e => hb (List.length_eq_zero_iff.mp (by omega))) (fun e => ?_)
  have hne : gL g ≠ [] := fun e2 => by rw [e2] at e; simp at e
  have h' := h.2.2
  cases g with
  | none => exact absurd rfl hne
  | some p =>
    obtain ⟨a1, a2, a3, a4, a5, a6, a7, a8, a9⟩ := h'.2.2
    have hn := h'.2.1.1
    have no : ¬ (0 ≤ i.toInt ∧ i.toInt < (uB p.2).length ∧ 0 ≤ j.toInt ∧ j.toInt < p.2.length) → Q (-1) σ := h0 p rfl hne
    have bad : Q (-1) σ → ((0 : Int32) = 0 → Q (-1) σ) ∧ (¬ (0 : Int32) = 0 → am_K ri am_Lx IX0_given (d + 1) [.ref 36, .int i, .int j] σ (fun r2 σ2 => Q r2 σ2)) := fun q => ⟨fun _ => q, fun z => absurd rfl z⟩
    refine vX0_has_36 ?_
    rw [a6.1, a4]
    refine ⟨fun z => bad (no fun c => by rw [i_lt, l_0] at z; omega), fun z => ⟨fun z2 => bad (no fun c => by rw [i_le, nI_toInt (by omega)] at z2; omega), fun z2 => ⟨fun z3 => bad (no fun c => by rw [i_lt, l_0] at z3; omega), fun z3 => ⟨fun z4 => bad (no fun c => by rw [i_le, nI_toInt (by omega)] at z4; omega), fun z4 => ⟨fun z5 => absurd z5 (by decide), fun _ => ?_⟩⟩⟩⟩⟩
    rw [i_lt, l_0] at z z3
    rw [i_le, nI_toInt (by omega)] at z2 z4
    obtain ⟨a, _, ha, e1⟩ := i_2 (n := i) (lo := 0) (hi := (uB p.2).length - 1) (by omega) ⟨by omega, by omega⟩
    obtain ⟨b, _, hb2, e2⟩ := i_2 (n := j) (lo := 0) (hi := p.2.length - 1) (by omega) ⟨by omega, by omega⟩
    have hpos : 0 < (uB p.2).length := by omega
    have hpos2 : 0 < p.2.length := by omega
    rw [e1, e2]
    exact x_given36 (d := d) a3 a6 (by omega) (by omega) (by omega) hn (h1 p a b rfl hne (by omega) (by omega) e1 e2)
theorem x_unified {g : Option (Nat × List (Tm × Int))} {i s t : Int32} {d : Nat} {Q : Int32 → am_S → Prop} (hV : Sx σ V) (h : Ux g σ) (hl : lts σ) (h3 : gS σ 3 3 = nI 0) (hbu : bud 92 598 σ) (hb : ¬ ((0 ≤ i.toInt ∧ i.toInt < (gL g).length) ∧ isSl s ∧ isSl t) → Q (-1) σ) (hn : (0 ≤ i.toInt ∧ i.toInt < (gL g).length) → ∀ k, k < 16 → s = nI k → isSl t → V k = none → Q (-2) σ)
    (h1 : ∀ p j b k x l, g = some p → i = nI j → (uG p.2)[j]? = some b → k < 16 → s = nI k → V k = some x → l < 16 → t = nI l → ∀ τ, gw [(3, 3)] [47] [] [1, 2, 5, 6] 92 598 σ τ → gS τ 3 3 = nI 0 → (fits (sub (thU p.1 p.2 b (vn p.2)) x) → Sx τ (uV V l (sub (thU p.1 p.2 b (vn p.2)) x)) → Q (nI (sub (thU p.1 p.2 b (vn p.2)) x).length) τ) ∧ (¬ fits (sub (thU p.1 p.2 b (vn p.2)) x) → Sx τ V → Q (-4) τ)) : am_K ri am_Lx IX10_unified (d + 84) [.ref 0, .int i, .int s, .int t] σ Q := by
  obtain ⟨l1, l2⟩ := gL_len h
  refine vX10_unified ⟨fun z => hb fun c => by rw [i_lt, l_0] at z; omega, fun z => ?_⟩
  rw [l1]
  refine ⟨fun z2 => hb fun c => by rw [i_le, nI_toInt (by omega)] at z2; omega, fun z2 => ?_⟩
  rw [i_lt, l_0] at z
  rw [i_le, nI_toInt (by omega)] at z2
  obtain ⟨j, _, hj, ei⟩ := i_2 (n := i) (lo := 0) (hi := (gL g).length - 1) (by omega) ⟨by omega, by omega⟩
  have hpos : 0 < (gL g).length := by omega
  have hjl : j < (gL g).length := by omega
  have hs := List.getElem?_eq_getElem hjl
  have hir : 0 ≤ i.toInt ∧ i.toInt < (gL g).length := ⟨by omega, by omega⟩
  refine xs_slot (d := d + 82) (fun k hk e => ⟨fun z => absurd z (by decide), fun _ => ?_⟩) (fun h => ⟨fun _ => hb fun z => h z.2.1, fun z => absurd rfl z⟩)
  refine xs_slot (d := d + 82) (fun l hl2 e2 => ⟨fun _ => ?_, fun z => absurd z (by decide)⟩) (fun h => ⟨fun z => absurd rfl z, fun _ => hb fun z => h z.2.2⟩)
  have hst : isSl t := by rw [e2]; exact nI_sl hl2
  refine ⟨by rw [e]; exact vp_in_nI hk (by decide), ?_⟩
  rw [e, nI_clamp (n := k) (by omega)]
  rcases hV k hk with ⟨v1, v2⟩ | ⟨x, u, v1, v2, hc, hf, hr⟩
  · exact o_n v2 (hn hir k hk e hst v1)
  · refine o_s v2 ?_
    have h' := h.2.2
    cases g with
    | none => simp [gL] at hjl
    | some p =>
      rw [ei]
      have hfl := hf.1
      refine x_fill (d := d + 38) h'.1 h'.2.1 h'.2.2 hl h3 (bud_mono hbu (by omega) (by omega)) hs fun τ g1 g2 g3 => ?_
      have hb2 : bud 80 520 τ := bud_gw (c := 12) (s := 78) hbu g1
      rw [show d + 83 = (d + 40 - x.length) + 43 + x.length by omega]
      refine x_replaced (θ := thU p.1 p.2 _ (vn p.2)) x hc u 0 0 (d + 40 - x.length) τ _ hf (Rp_ext (gw_ext g1) hr) (by omega) (by omega) g2 g3 (bud_mono hb2 (by omega) (by omega)) fun o τ2 k1 k2 _ k3 => ?_
      rw [show d + 40 - x.length + 43 + x.length = d + 83 by omega, e2]
      have g4 : gw [(3, 3)] [47] [] [2, 5, 6] 92 598 σ τ2 := gw_mono (gw_trans g1 (gw_mono (S' := [(3, 3)]) (A' := [47]) (J' := []) (P' := [2, 5, 6]) (c' := 80) (s' := 520) k1 (by decide) (by decide) (by decide) (by decide) (by omega) (by omega))) (fun _ h => h) (fun _ h => h) (fun _ h => h) (fun _ h => h) (by omega) (by omega)
      have hV2 : Sx τ2 V := Sx_ext hV (gw_ext g4) (gw_P g4 (by omega) (by decide))
      refine x_kept (d := d + 82) hl2 k3 hV2 (fun hfit τ3 m1 m2 => ?_) (fun hfit => ?_)
      · have g5 : gw [(3, 3)] [47] [] [1, 2, 5, 6] 92 598 σ τ3 := gw_mono (gw_trans (gw_mono (S' := [(3, 3)]) (A' := [47]) (J' := []) (P' := [1, 2, 5, 6]) (c' := 92) (s' := 598) g4 (by decide) (by decide) (by decide) (by decide) (by omega) (by omega)) (gw_mono (S' := [(3, 3)]) (A' := [47]) (J' := []) (P' := [1, 2, 5, 6]) (c' := 0) (s' := 0) m1 (by decide) (by decide) (by decide) (by decide) (by omega) (by omega))) (fun _ h => h) (fun _ h => h) (fun _ h => h) (fun _ h => h) (by omega) (by omega)
        exact (h1 p j _ k x l rfl ei hs hk e v1 hl2 e2 τ3 g5 (by rw [gw_S m1 (by omega) (by decide)]; exact k2)).1 hfit m2
      · exact (h1 p j _ k x l rfl ei hs hk e v1 hl2 e2 τ2 (gw_mono g4 (by decide) (by decide) (by decide) (by decide) (by omega) (by omega)) k2).2 hfit hV2
end UC
