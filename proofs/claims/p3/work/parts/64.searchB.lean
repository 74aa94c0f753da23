/-! ===== the class's search, object 36 ===== -/
section S36
variable {R U S : Nat} {A : Nat → Nat → Int}
theorem getD_app36 {P r : List Nat} {j : Nat} (h : P.length ≤ j) : (P ++ r).getD j 0 = r.getD (j - P.length) 0 := by
  simp only [List.getD_eq_getElem?_getD]
  rw [List.getElem?_append_right h]
theorem x_search36 {d : Nat} : ∀ (n : Nat) (P : List Nat) (l : Nat) (F : List (List Nat)) (σ : am_S) (Q : Unit → am_S → Prop), P.length + n = U → sm P + l = S → S ≤ 16 → bs36 R U A σ → cb36 R U A σ → cs36 R A P σ → fs36 U F σ → gS σ 36 10 = nI S → F.length ≤ 16 →
    (∀ y, y ∈ F ↔ isMin R U S A y ∧ lxl y P) → (∀ y ∈ F, ¬ vle y (P ++ List.replicate n 0)) → (n = 0 → ∀ r, r < R → dot (A r) 0 P = 0) →
    (∀ σ' F', fr [(36, 11)] [40, 41, 42] [] [] σ σ' → cs36 R A P σ' → fs36 U F' σ' → F'.length ≤ 16 + 1 → F' <+: (F ++ flt R U S A P n l) → (F'.length ≤ 16 → F' = F ++ flt R U S A P n l) → Q () σ') → am_K ru am_Lx IX0_search (d + n + 2) [.ref 36, .int (nI P.length), .int (nI l)] σ Q := by
  intro n
  induction n with
  | zero =>
    intro P l F σ Q hP hs hS hb hcb hc hf h10 hF hab hno hz H
    have hU := hb.2.2.2.2.2.1
    have en0 : ((en 0 l).map (P ++ ·)) = [P] := by simp [en]
    refine vX0_search_36 ⟨fun z => absurd z (by rw [hb.2.2.2.1]; exact nI_nlt (by omega) (by omega)), fun _ => pk_le S l (fun h => ?_) (fun h => ?_) h10 rfl (by omega) (by omega)⟩
    · have hn : flt R U S A P 0 l = [] := by
        unfold flt
        rw [en0, List.filter_cons, dc_f (fun m => absurd m.1.2.2.1 (by omega))]
        simp
      exact H σ F fr_rfl hc hf (by omega) ⟨[], by rw [hn]⟩ (fun _ => by rw [hn, List.append_nil])
    · have hm : isMin R U S A P := by
        refine ⟨⟨by omega, by omega, by omega, hz rfl⟩, fun y hy hv => Classical.byContradiction fun ne => ?_⟩
        obtain ⟨z, hz1, hz2⟩ := min_below (sm y) (Nat.le_refl _) hy
        have hzP : vle z P := vle_trans hz2 hv
        have hzn : z ≠ P := fun e => by
          subst e
          have h1 := vle_sm hz2
          have h2 := vle_sm hv
          exact ne (vle_eq hv (by omega))
        exact hno z ((hab z).mpr ⟨hz1, lxl_le hzP hzn⟩) (by simpa using hzP)
      have hn : flt R U S A P 0 l = [P] := by
        unfold flt
        rw [en0, List.filter_cons, dc_iff.mpr hm]
        simp
      refine x_keep36 (d := d) hb hc hf hF fun σ' hfr hfs => ?_
      refine H σ' (F ++ [P]) (fr_mono hfr (by decide) (by decide) (by decide) (by decide)) (cs36_fr hc hfr) hfs (by simp; omega) ⟨[], by rw [hn, List.append_nil]⟩ (fun _ => by rw [hn])
  | succ n ih =>
    intro P l F σ Q hP hs hS hb hcb hc hf h10 hF hab hno hz H
    have hU := hb.2.2.2.2.2.1
    have hR := hb.2.2.2.2.1
    -- the loop
    have loop : ∀ m v F1 τ, v + m = l + 1 → fr [(36, 11)] [40, 41, 42] [] [] σ τ → cs36 R A (P ++ [v - 1]) τ → fs36 U F1 τ → F1.length ≤ 16 + 1 → (F1.length ≤ 16 → ∀ y, y ∈ F1 ↔ isMin R U S A y ∧ lxl y (P ++ [v])) → (v = 0 → ∀ y ∈ F1, ¬ vle y (P ++ [0] ++ List.replicate n 0)) →
        F1 <+: (F ++ flt R U S A P (n + 1) l) → (F1.length ≤ 16 → F1 ++ fltF R U S A P n l v m = F ++ flt R U S A P (n + 1) l) → am_X ru am_Lx IX0_search (d + (n + 1) + 1 + 1) 26 [some (.ref 36), some (.int (nI P.length)), some (.int (nI l)), some (.int (0 : Int32)), some (.int (nI v))] [] τ Q := by
      intro m
      induction m with
      | zero =>
        intro v F1 τ hv hfr h1 h2 h3 h4 h5 h6 h7
        have hbt := bs36_fr hb (fr_mono hfr (by decide) (by decide) (by decide) (by decide))
        refine vX0_search_36_26 ⟨fun z => absurd rfl z, fun _ => pk_lt l v (fun _ => ⟨pk_in P.length 16 (by omega), ?_⟩) (fun h => by omega)⟩
        rw [nI_clamp (by omega), h1.1 P.length (by omega), getD_app36 (Nat.le_refl _)]
        refine x_change36 (c' := 0) (c := v - 1) (P := P) (d := d + n + 1) hbt h1 rfl (by omega) ?_ (by omega) (by omega) fun σ' hf' hc' => ?_
        · rw [t_neg (nI_toInt (by simp; omega)) (by simp; omega)]
          simp
        · refine H σ' F1 (fr_trans hfr (fr_mono hf' (by decide) (by decide) (by decide) (by decide))) (cs36_0 hc') (fs36_fr h2 hf') h3 h6 (fun h => ?_)
          have := h7 h
          rw [show fltF R U S A P n l v 0 = [] from rfl, List.append_nil] at this
          exact this
      | succ m ihm =>
        intro v F1 τ hv hfr h1 h2 h3 h4 h5 h6 h7
        have hbt := bs36_fr hb (fr_mono hfr (by decide) (by decide) (by decide) (by decide))
        have hcbt := cb36_fr hcb hfr
        have ht10 : gS τ 36 10 = nI S := by rw [hfr.1 36 10 (by decide)]; exact h10
        -- how the loop is left
        have leave : ∀ (υ : am_S) (c : Nat) (F2 : List (List Nat)), sm P + c ≤ 16 → fr [(36, 11)] [40, 41, 42] [] [] σ υ → cs36 R A (P ++ [c]) υ → fs36 U F2 υ → F2.length ≤ 16 + 1 → F2 <+: (F ++ flt R U S A P (n + 1) l) → (F2.length ≤ 16 → F2 = F ++ flt R U S A P (n + 1) l) →
            vp_in (nI P.length) 16 ∧ am_K ru am_Lx IX0_change (d + (n + 1) + 1) [.ref 36, .int (nI P.length), .int (-(gA υ 41 (nI P.length).toNatClampNeg))] υ (fun _ σ1 => Q () σ1) := by
          intro υ c F2 g0 g1 g2 g3 g4 g5 g6
          refine ⟨pk_in P.length 16 (by omega), ?_⟩
          rw [nI_clamp (by omega), g2.1 P.length (by omega), getD_app36 (Nat.le_refl _)]
          refine x_change36 (c' := 0) (c := c) (P := P) (d := d + n + 1) (bs36_fr hb (fr_mono g1 (by decide) (by decide) (by decide) (by decide))) g2 rfl (by omega) ?_ (by omega) (by omega) fun σ' hf' hc' => ?_
          · rw [t_neg (nI_toInt (by simp; omega)) (by simp; omega)]
            simp
          · exact H σ' F2 (fr_trans g1 (fr_mono hf' (by decide) (by decide) (by decide) (by decide))) (cs36_0 hc') (fs36_fr g3 hf') g4 g5 g6
        -- one round, from canEnd on
        have body : F1.length ≤ 16 → ∀ υ, fr [] [40, 41] [] [] τ υ → cs36 R A (P ++ [v]) υ → am_X ru am_Lx IX0_search (d + (n + 1) + 1 + 1) 58 [some (.ref 36), some (.int (nI P.length)), some (.int (nI l)), some (.int (0 : Int32)), some (.int (nI v))] [] υ Q := by
          intro hF1 υ hfu hcu
          have hfrU : fr [(36, 11)] [40, 41, 42] [] [] σ υ := fr_trans hfr (fr_mono hfu (by decide) (by decide) (by decide) (by decide))
          have hbu := bs36_fr hb (fr_mono hfrU (by decide) (by decide) (by decide) (by decide))
          have hcbu := cb36_fr hcb hfrU
          have hfsu := fs36_fr h2 hfu
          have h10u : gS υ 36 10 = nI S := by rw [hfrU.1 36 10 (by decide)]; exact h10
          have h4' := h4 hF1
          have hsp : sm (P ++ [v]) = sm P + v := by simp [sm_app, sm]
          have hlp : (P ++ [v]).length = P.length + 1 := by simp
          have next : ∀ (υ2 : am_S) (F2 : List (List Nat)), fr [(36, 11)] [40, 41, 42] [] [] σ υ2 → cs36 R A (P ++ [v]) υ2 → fs36 U F2 υ2 → F2.length ≤ 16 + 1 → F2 <+: (F1 ++ flt R U S A (P ++ [v]) n (l - v)) → (F2.length ≤ 16 → F2 = F1 ++ flt R U S A (P ++ [v]) n (l - v)) → am_X ru am_Lx IX0_search (d + (n + 1) + 1 + 1) 26 [some (.ref 36), some (.int (nI P.length)), some (.int (nI l)), some (.int (0 : Int32)), some (.int (nI v + (1 : Int32)))] [] υ2 Q := by
            intro υ2 F2 g1 g2 g3 g4 g5 g6
            rw [nI_1]
            have h7' := h7 hF1
            rw [fltF_succ, ← List.append_assoc] at h7'
            refine ihm (v + 1) F2 υ2 (by omega) g1 g2 g3 g4 (fun hle y => ?_) (fun z => by omega) ?_ (fun hle => ?_)
            · rw [g6 hle, List.mem_append, h4' y, flt_mem]
              constructor
              · rintro (⟨a, b⟩ | ⟨a, r, b, _, _⟩)
                · refine ⟨a, lxl_of P ?_⟩
                  rcases lxl_app P (by have := a.1.1; omega) b with z | ⟨q, r, z1, z2⟩
                  · exact Or.inl z
                  · exact Or.inr ⟨q, r, z1, by omega⟩
                · exact ⟨a, lxl_of P (Or.inr ⟨v, r, by simpa using b, by omega⟩)⟩
              · rintro ⟨a, b⟩
                rcases lxl_app P (by have := a.1.1; omega) b with z | ⟨q, r, z1, z2⟩
                · exact Or.inl ⟨a, lxl_of P (Or.inl z)⟩
                · by_cases e : q = v
                  · subst e
                    have e1 := a.1.1
                    have e2 := a.1.2.1
                    rw [z1] at e1 e2
                    simp only [List.length_append, List.length_cons, sm_app, sm] at e1 e2
                    exact Or.inr ⟨a, r, by rw [z1]; simp, by omega, by omega⟩
                  · exact Or.inl ⟨a, lxl_of P (Or.inr ⟨q, r, z1, by omega⟩)⟩
            · rw [← h7']
              exact g5.trans ⟨_, rfl⟩
            · rw [g6 hle]
              exact h7'
          refine vX0_search_36_58 ?_
          rw [nI_1, n_sub (by omega) (by omega)]
          refine x_canEnd36 (d := d + n + 1) hbu hcbu hcu (by omega) (by omega) (by rw [hlp]; omega) (by rw [hsp]; omega) (fun hcan => ?_) (fun hcan => ?_)
          · -- it may end
            refine ⟨fun z => absurd z (by decide), fun _ => ?_⟩
            have rec_ : (∀ y ∈ F1, ¬ vle y (P ++ [v] ++ List.replicate n 0)) → am_K ru am_Lx IX0_search (d + (n + 1) + 1) [.ref 36, .int (nI (P.length + 1)), .int (nI (l - v))] υ (fun _ σ2 => am_X ru am_Lx IX0_search (d + (n + 1) + 1 + 1) 26 [some (.ref 36), some (.int (nI P.length)), some (.int (nI l)), some (.int (0 : Int32)), some (.int (nI v + (1 : Int32)))] [] σ2 Q) := by
              intro hnv
              rw [← hlp]
              refine ih (P ++ [v]) (l - v) F1 υ _ (by rw [hlp]; omega) (by rw [hsp]; omega) hS hbu hcbu hcu hfsu h10u hF1 h4' hnv (fun hn0 r hr => ?_) ?_
              · have := hcan r hr
                rw [show U - (P.length + 1) = 0 by omega] at this
                simp only [lo, hi] at this
                omega
              · intro υ2 F2 g1 g2 g3 g4 g5 g6
                exact next υ2 F2 (fr_trans hfrU g1) g2 g3 g4 g5 g6
            refine ⟨fun hv0 => rec_ ?_, fun hv0 => ?_⟩
            · have hv00 : v = 0 := by
                rw [i_le, nI_toInt (by omega), l_0] at hv0
                omega
              subst hv00
              exact h5 rfl
            · refine x_isAboveOne36 (d := d + n + 1) hbu hcu hfsu hF1 (by rw [hsp]; omega) (fun y hy => ?_) (fun hab1 => ?_) (fun hab1 => ?_)
              · have := ((h4' y).mp hy).1.1.2.1
                omega
              · refine ⟨fun z => absurd z (by decide), fun _ => ?_⟩
                -- above one: nothing more in this row
                obtain ⟨y, hy, hyv⟩ := hab1
                have hym := (h4' y).mp hy
                have hnil : fltF R U S A P n l v (m + 1) = [] := by
                  refine fltF_nil fun w hw1 hw2 r hr1 hr2 hmin => ?_
                  have hyl := hym.1.1.1
                  have hle : vle y (P ++ [w] ++ r) := by
                    rw [vle_iff (by simp; omega)]
                    intro j hj
                    have h8 := hyv j (by omega)
                    refine Nat.le_trans h8 ?_
                    by_cases hj1 : j < P.length
                    · simp only [List.getD_eq_getElem?_getD, List.append_assoc]
                      rw [List.getElem?_append_left hj1, List.getElem?_append_left hj1]
                      exact Nat.le_refl _
                    · rw [List.append_assoc, getD_app36 (by omega), getD_app36 (by omega)]
                      cases hj2 : j - P.length with
                      | zero => show v ≤ w; exact hw1
                      | succ q => simp
                  have e := hmin.2 y hym.1.1 hle
                  rcases lxl_app P (by omega) hym.2 with z | ⟨q, r', z1, z2⟩
                  · rw [e, List.append_assoc] at z
                    exact lxl_irr _ _ z
                  · rw [e, List.append_assoc] at z1
                    have := List.append_cancel_left z1
                    simp at this
                    omega
                refine vX0_search_36_26 ⟨fun _ => leave υ v F1 (by omega) hfrU hcu hfsu h3 h6 (fun h => ?_), fun z => absurd z (by decide)⟩
                have := h7 h
                rw [hnil, List.append_nil] at this
                exact this
              · refine ⟨fun _ => rec_ fun y hy hle => hab1 ⟨y, hy, fun j hj => ?_⟩, fun z => absurd rfl z⟩
                have hl1 := vle_len hle
                have := (vle_iff hl1).mp hle j (by rw [hl1]; simp; omega)
                refine Nat.le_trans this ?_
                by_cases hj1 : j < (P ++ [v]).length
                · simp only [List.getD_eq_getElem?_getD]
                  rw [List.getElem?_append_left hj1]
                  exact Nat.le_refl _
                · rw [getD_app36 (by omega), List.getD_eq_getElem?_getD]
                  by_cases hj2 : j - (P ++ [v]).length < n
                  · rw [List.getElem?_replicate_of_lt hj2]
                    exact Nat.zero_le _
                  · rw [List.getElem?_eq_none (by simp; simp at hj2; omega)]
                    exact Nat.zero_le _
          · -- it can't end: no solution begins so
            refine ⟨fun _ => ?_, fun z => absurd rfl z⟩
            have hnil : flt R U S A (P ++ [v]) n (l - v) = [] := by
              refine flt_nil fun r hr1 hr2 hmin => hcan fun q hq => ?_
              have e0 := hmin.1.2.2.2 q hq
              rw [dot_app, hlp, Nat.zero_add] at e0
              have e1 := lo_dot2 (A q) r (P.length + 1) n (l - v) hr1 hr2
              rw [show U - (P.length + 1) = n by omega]
              omega
            refine next υ F1 hfrU hcu hfsu h3 ⟨[], by rw [hnil]⟩ (fun _ => by rw [hnil, List.append_nil])
        refine vX0_search_36_26 ⟨fun z => absurd rfl z, fun _ => pk_lt l v (fun h => by omega) (fun hlv => pk_lt 16 F1.length (fun hm => ?_) (fun hm => ⟨fun hv0 => ?_, fun hv0 => ?_⟩) hbt.2.1 h2.1 (by omega) (by omega))⟩
        · exact leave τ (v - 1) F1 (by omega) hfr h1 h2 h3 h6 (fun h => by omega)
        · have hv00 : v = 0 := by
            rw [i_le, nI_toInt (by omega), l_0] at hv0
            omega
          subst hv00
          exact body hm τ fr_rfl h1
        · have hv00 : 0 < v := by
            rw [i_le, nI_toInt (by omega), l_0] at hv0
            omega
          refine x_change36 (c' := v) (c := v - 1) (P := P) (d := d + n + 1) hbt h1 rfl (by omega) ?_ (by omega) (by omega) fun σ' hf' hc' => body hm σ' hf' hc'
          rw [l_1]
          omega
    refine vX0_search_36 ⟨fun _ => ?_, fun z => absurd (by rw [hb.2.2.2.1]; exact nI_lt (by omega) (by omega)) z⟩
    refine loop (l + 1) 0 F σ (by omega) fr_rfl (cs36_1 hc) hf (by omega) (fun _ y => ?_) (fun _ y hy => ?_) ⟨_, rfl⟩ (fun _ => by rw [flt_succ])
    · rw [hab y]
      constructor
      · rintro ⟨a, b⟩
        exact ⟨a, lxl_of P (Or.inl b)⟩
      · rintro ⟨a, b⟩
        rcases lxl_app P (by have := a.1.1; omega) b with z | ⟨q, r, z1, z2⟩
        · exact ⟨a, z⟩
        · omega
    · have := hno y hy
      rw [List.replicate_succ] at this
      simpa using this
theorem x_findBounds36 {d : Nat} {σ : am_S} {Q : Unit → am_S → Prop} {r : Nat} (hb : bs36 R U A σ) (hr : r < R) (H : ∀ σ', fr [] [38, 39] [] [] σ σ' → (∀ i, (i < 17 * r ∨ 17 * r + U < i) → gA σ' 38 i = gA σ 38 i ∧ gA σ' 39 i = gA σ 39 i) → (∀ k, k ≤ U → (gA σ' 38 (17 * r + k)).toInt = lo (A r) k (U - k) ∧ (gA σ' 39 (17 * r + k)).toInt = hi (A r) k (U - k)) → Q () σ') : am_K ru am_Lx IX0_findBounds (d + 1) [.ref 36, .int (nI r)] σ Q := by
  have hU := hb.2.2.2.2.2.1
  have hR := hb.2.2.2.2.1
  have loop : ∀ k τ, k ≤ U → fr [] [38, 39] [] [] σ τ → (∀ i, (i < 17 * r ∨ 17 * r + U < i) → gA τ 38 i = gA σ 38 i ∧ gA τ 39 i = gA σ 39 i) → (∀ j, k ≤ j → j ≤ U → (gA τ 38 (17 * r + j)).toInt = lo (A r) j (U - j) ∧ (gA τ 39 (17 * r + j)).toInt = hi (A r) j (U - j)) → am_X ru am_Lx IX0_findBounds (d + 1) 35 [some (.ref 36), some (.int (nI r)), some (.int (nI (17 * r + k))), some (.int (nI k - 1)), none] [] τ Q := by
    intro k
    induction k with
    | zero =>
      intro τ hk hf ho hv
      exact vX0_findBounds_36_35 ⟨fun _ => H τ hf ho fun j hj => hv j (Nat.zero_le _) hj, fun z => absurd (by decide) z⟩
    | succ k ih =>
      intro τ hk hf ho hv
      have hbt := bs36_fr hb (fr_mono hf (by decide) (by decide) (by decide) (by decide))
      have e1 : nI r * gS τ 36 0 + nI k = nI (16 * r + k) := by rw [hbt.1, pk_mul, nI_add, Nat.mul_comm]
      have e2 : nI (17 * r + (k + 1)) + (-1) = nI (17 * r + k) := pk_m1 (17 * r + k)
      rw [nI_pred]
      refine vX0_findBounds_36_35 ⟨fun z => absurd z (nI_pos (by omega)), fun _ => ?_⟩
      rw [e1, e2, nI_1, nI_clamp (n := 16 * r + k) (by omega), nI_clamp (n := 17 * r + k) (by omega), nI_clamp (n := 17 * r + k + 1) (by omega)]
      refine ⟨pk_in (16 * r + k) 16 (by omega), pk_in (17 * r + k + 1) 17 (by omega), pk_in (17 * r + k) 17 (by omega), pk_in (17 * r + k + 1) 17 (by omega), pk_in (17 * r + k) 17 (by omega), ?_⟩
      have hn := hbt.2.2.2.2.2.2 r hr k (by omega)
      have hv1 := hv (k + 1) (Nat.le_refl _) hk
      rw [show 17 * r + (k + 1) = 17 * r + k + 1 by omega] at hv1
      rw [show nI k + (-1) = nI k - 1 from by rw [show (-1 : Int32) = -1 from rfl, Int32.sub_eq_add_neg]]
      refine ih _ (by omega) (fr_wA (fr_wA hf (by decide)) (by decide)) (fun i hi => ?_) (fun j hj1 hj2 => ?_)
      · have := ho i hi
        rw [wA_ne (by omega), wA_ne (by omega), wA_ne (by omega), wA_ne (by omega)]
        exact this
      · by_cases e : j = k
        · subst e
          rw [show U - j = (U - (j + 1)) + 1 by omega, lo, hi, wA_ne (by omega), wA_at, wA_at, ← hv1.1, ← hv1.2, ← hn.1]
          constructor
          · split
            · rename_i c
              rw [i_lt] at c
              omega
            · rename_i c
              rw [i_lt] at c
              omega
          · split
            · rename_i c
              rw [i_lt] at c
              omega
            · rename_i c
              rw [i_lt] at c
              omega
        · rw [wA_ne (by omega), wA_ne (by omega), wA_ne (by omega), wA_ne (by omega)]
          exact hv j (by omega) hj2
  have e0 : nI r * (gS σ 36 0 + 1) + gS σ 36 9 = nI (17 * r + U) := by rw [hb.1, hb.2.2.2.1, nI_1, pk_mul, nI_add, Nat.mul_comm]
  refine vX0_findBounds_36 ⟨by rw [e0]; exact pk_in (17 * r + U) 17 (by omega), by rw [e0]; exact pk_in (17 * r + U) 17 (by omega), ?_⟩
  rw [e0, hb.2.2.2.1, nI_clamp (by omega)]
  refine loop U _ (Nat.le_refl _) (fr_wA (fr_wA fr_rfl (by decide)) (by decide)) (fun i hi => ?_) (fun j hj1 hj2 => ?_)
  · rw [wA_ne (by omega), wA_ne (by omega), wA_ne (by omega), wA_ne (by omega)]
    exact ⟨rfl, rfl⟩
  · rw [show j = U by omega, Nat.sub_self, wA_ne (by omega), wA_at, wA_at]
    exact ⟨rfl, rfl⟩
theorem x_found36 {d : Nat} {σ : am_S} {Q : Int32 → am_S → Prop} (hb : bs36 R U A σ) (hS : S ≤ 16)
    (H1 : ∀ σ', fr [(36, 10), (36, 11)] [38, 39, 40, 41, 42] [] [] σ σ' → (sols R U S A).length ≤ 16 → fs36 U (sols R U S A) σ' → Q (nI (sols R U S A).length) σ')
    (H0 : ∀ σ', fr [(36, 10), (36, 11)] [38, 39, 40, 41, 42] [] [] σ σ' → 16 < (sols R U S A).length → fs36 U [] σ' → Q (-4) σ') : am_K ri am_Lx IX0_found (d + U + 3) [.ref 36, .int (nI S)] σ Q := by
  have hU := hb.2.2.2.2.2.1
  have hR := hb.2.2.2.2.1
  have last : ∀ m k τ, k + m = 16 → fr [(36, 10), (36, 11)] [38, 39, 40, 41, 42] [] [] σ τ → gS τ 36 10 = nI S → gS τ 36 11 = nI 0 → cb36 R U A τ → (∀ r, r < R → (gA τ 40 r).toInt = 0) → (∀ j, j < k → gA τ 41 j = nI 0) → am_X ri am_Lx IX0_found (d + U + 2 + 1) 40 [some (.ref 36), some (.int (nI S)), some (.int (nI k))] [] τ Q := by
    intro m
    induction m with
    | zero =>
      intro k τ hk hf h10 h11 hcb hs hc
      have hbt := bs36_fr hb hf
      refine vX0_found_36_40 (pk_le 16 k (fun _ => ?_) (fun h => by omega) hbt.1 rfl (by omega) (by omega))
      rw [h10]
      refine x_search36 (d := d) U [] S [] τ _ (by simp) (by simp [sm]) hS hbt hcb ⟨fun j hj => hc j (by omega), fun r hr => hs r hr⟩ ⟨h11, fun i hi => absurd hi (by simp)⟩ h10 (by simp) (fun y => ?_) (fun y hy => absurd hy (by simp)) (fun _ r _ => rfl) ?_
      · constructor
        · intro h; simp at h
        · rintro ⟨_, h⟩; cases y <;> exact False.elim h
      · intro σ' F' g1 g2 g3 g4 g5 g6
        have g1' : fr [(36, 10), (36, 11)] [38, 39, 40, 41, 42] [] [] σ σ' := fr_trans hf (fr_mono g1 (by decide) (by decide) (by decide) (by decide))
        have hb' := bs36_fr hb g1'
        rw [List.nil_append] at g5 g6
        refine pk_le F'.length 16 (fun h => ?_) (fun h => ?_) g3.1 hb'.2.1 (by omega) (by omega)
        · have e := g6 h
          rw [g3.1]
          rw [e] at g3 h ⊢
          exact H1 σ' g1' h g3
        · refine H0 _ (fr_wS g1' (by decide)) (Nat.lt_of_lt_of_le h g5.length_le) ⟨?_, fun i hi => absurd hi (by simp)⟩
          rw [wS_at]
          rfl
    | succ m ih =>
      intro k τ hk hf h10 h11 hcb hs hc
      have hbt := bs36_fr hb hf
      refine vX0_found_36_40 (pk_le 16 k (fun h => by omega) (fun _ => ⟨pk_in k 16 (by omega), ?_⟩) hbt.1 rfl (by omega) (by omega))
      rw [nI_clamp (by omega), nI_1]
      refine ih (k + 1) _ (by omega) (fr_wA hf (by decide)) h10 h11 (fun r hr j hj => ?_) (fun r hr => ?_) (fun j hj => ?_)
      · rw [wA_arr (by decide), wA_arr (by decide)]
        exact hcb r hr j hj
      · rw [wA_arr (by decide)]
        exact hs r hr
      · by_cases e : j = k
        · subst e
          rw [wA_at]
          rfl
        · rw [wA_ne (fun z => e z.2)]
          exact hc j (by omega)
  have first : ∀ m r τ, r + m = R → fr [(36, 10), (36, 11)] [38, 39, 40, 41, 42] [] [] σ τ → gS τ 36 10 = nI S → gS τ 36 11 = nI 0 → (∀ q, q < r → ∀ k, k ≤ U → (gA τ 38 (17 * q + k)).toInt = lo (A q) k (U - k) ∧ (gA τ 39 (17 * q + k)).toInt = hi (A q) k (U - k)) → (∀ q, q < r → (gA τ 40 q).toInt = 0) → am_X ri am_Lx IX0_found (d + U + 2 + 1) 12 [some (.ref 36), some (.int (nI S)), some (.int (nI r))] [] τ Q := by
    intro m
    induction m with
    | zero =>
      intro r τ hr hf h10 h11 hcb hs
      have hbt := bs36_fr hb hf
      refine vX0_found_36_12 (pk_le R r (fun _ => ?_) (fun h => by omega) hbt.2.2.1 rfl (by omega) (by omega))
      exact last 16 0 τ (by omega) hf h10 h11 (fun q hq => hcb q (by omega)) (fun q hq => hs q (by omega)) (fun j hj => absurd hj (Nat.not_lt_zero _))
    | succ m ih =>
      intro r τ hr hf h10 h11 hcb hs
      have hbt := bs36_fr hb hf
      refine vX0_found_36_12 (pk_le R r (fun h => by omega) (fun _ => ⟨pk_in r 1 (by omega), ?_⟩) hbt.2.2.1 rfl (by omega) (by omega))
      rw [nI_clamp (by omega), nI_1]
      refine x_findBounds36 (d := d + U + 1) (bs36_fr hb (fr_wA hf (by decide))) (by omega) fun σ' g1 g2 g3 => ?_
      refine ih (r + 1) σ' (by omega) (fr_trans (fr_wA hf (by decide)) (fr_mono g1 (by decide) (by decide) (by decide) (by decide))) ?_ ?_ (fun q hq k hk => ?_) (fun q hq => ?_)
      · rw [g1.1 36 10 (by decide)]
        exact h10
      · rw [g1.1 36 11 (by decide)]
        exact h11
      · by_cases e : q = r
        · subst e
          exact g3 k hk
        · have := g2 (17 * q + k) (Or.inl (by omega))
          rw [this.1, this.2, wA_arr (by decide), wA_arr (by decide)]
          exact hcb q (by omega) k hk
      · rw [g1.2.1 40 (by decide)]
        by_cases e : q = r
        · subst e
          rw [wA_at]
          rfl
        · rw [wA_ne (fun z => e z.2)]
          exact hs q (by omega)
  refine vX0_found_36 (first R 0 _ (by omega) (fr_wS (fr_wS fr_rfl (by decide)) (by decide)) (wS_at _ _ _ _) ?_ (fun q hq => absurd hq (Nat.not_lt_zero _)) (fun q hq => absurd hq (Nat.not_lt_zero _)))
  rw [wS_ne (by omega), wS_at]
  rfl
end S36
