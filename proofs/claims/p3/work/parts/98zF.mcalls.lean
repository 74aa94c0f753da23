/-! ===== found, what a MATCHER puts, the class's calls match, matched, instance ===== -/
/-- what the class holds of the latest match() -/
def MG (σ : am_S) : Prop := ∃ D c, Ins D σ ∧ gS σ 11 6 = nI c ∧ c ≤ 50 ∧ ∀ i, i < 4 * c → gv D (gJ σ 27 i)
def fF (σ τ : am_S) : Prop := fr [(11, 6), (12, 3), (16, 7), (16, 8)] [18, 19, 20, 21, 22, 24] [14, 15, 23, 25, 26, 27] [13, 17] σ τ
theorem fF_S : ∀ x ∈ [((11 : Nat), (6 : Nat)), (12, 3), (16, 7), (16, 8)], x.1 < 48 := by decide
theorem fF_P : ∀ x ∈ [(13 : Nat), 17], x < 48 := by decide
theorem fT_F {σ τ : am_S} (f : fT σ τ) : fF σ τ := fr_mono f (by decide) (by decide) (by decide) (by decide)
theorem fM_F {f : Nat} {σ τ : am_S} (g : fM f σ τ) : fF σ τ := fr_mono g.1 (by decide) (by decide) (by decide) (by decide)
theorem Mt_MG {D : List Tm} {σ : am_S} (hI : Ins D σ) {c : Nat} (h1 : gS σ 11 6 = nI c) (h2 : c ≤ 50) (h3 : ∀ i, i < 4 * c → i < 200 → gv D (gJ σ 27 i)) : MG σ := ⟨D, c, hI, h1, h2, fun i hi => h3 i hi (by omega)⟩
theorem MG_0 {D : List Tm} {σ : am_S} (hI : Ins D σ) (h : gS σ 11 6 = 0) : MG σ := ⟨D, 0, hI, h, by decide, fun i hi => by omega⟩
theorem Ins_11 {D : List Tm} {σ : am_S} {v : Int32} (h : Ins D σ) : Ins D (wS σ 11 6 v) := Ins_fr h (fr_wS (S := [(11, 6)]) (A := []) (J := []) (P := []) fr_rfl (by simp)) (by decide) (by decide) (by decide) (by decide) (by decide) (by decide)
section MC
variable {V : Sv}
theorem x_mfound {σ : am_S} {d t u : Nat} {P W : Tm} {Q : Int32 → am_S → Prop} (hP : Can P) (hfP : fits P) (hrP : Rp σ t P) (hW : Can W) (hfW : fits W) (hrW : Rp σ u W) (H : ∀ r τ, fF σ τ → MG τ → Q r τ) : am_K ri am_Lx IX3_found (d + 128) [.ref 11, .ref t, .ref u] σ Q := by
  have f0 : fF σ (wS σ 11 6 0) := fr_wS fr_rfl (by simp)
  refine vX3_found (x_take (d := d + 42) hW hfW (fr_R f0 fF_S fF_P hrW) fun D τ1 f1 hI hWD => ?_)
  have f1' : fF σ τ1 := fr_trans f0 (fr_mono f1 (by decide) (by decide) (by decide) (by decide))
  have c1 : gS τ1 11 6 = 0 := (f1.1 11 6 (by decide)).trans (wS_at _ _ _ _)
  refine x_ptakes (d := d + 82) hI hP hfP (fr_R f1' fF_S fF_P hrP) (fun M τ2 f2 hPn hM h0 => ⟨fun _ => ?_, fun z => absurd z (by decide)⟩) (fun τ2 f2 => ⟨fun z => absurd rfl z, fun _ => ?_⟩)
  · have hI2 : Ins D τ2 := Ins_fr hI f2 (by decide) (by decide) (by decide) (by decide) (by decide) (by decide)
    have f2' : fF σ τ2 := fr_trans f1' (fT_F f2)
    have c2 : gS τ2 11 6 = 0 := (f2.1 11 6 (by decide)).trans c1
    have hC2 : Cx D M τ2 := ⟨hI2, hPn, hM⟩
    have fin : ∀ τ, fM 0 τ2 τ → gS τ 11 6 = 0 → (∀ i, i < 40 → gA τ 24 i = 0) → (∀ i, i < 4 → gJ τ 26 i = 0) → am_K ri am_Lx IX1_idOf (d + 127) [.ref 12, .ref u] τ (fun r1 σ1 => am_K ri am_Lx IX3_assigned (d + 127) [.ref 11, .int (0 : Int32), .int (0 : Int32), .int r1, .int (0 : Int32)] σ1 (fun r2 σ2 => (r2 = 0 → ((gS σ2 11 6) ≤ (50 : Int32) → Q (gS σ2 11 6) σ2) ∧ (¬ (gS σ2 11 6) ≤ (50 : Int32) → Q (-4 : Int32) (wS σ2 11 6 (0 : Int32)))) ∧ (¬ r2 = 0 → am_K ru am_Lx IX3_search (d + 127) [.ref 11, .int (0 : Int32)] σ2 (fun _ σ3 => ((gS σ3 11 6) ≤ (50 : Int32) → Q (gS σ3 11 6) σ3) ∧ (¬ (gS σ3 11 6) ≤ (50 : Int32) → Q (-4 : Int32) (wS σ3 11 6 (0 : Int32))))))) := by
      intro τ g c3 h24 h26
      have hCτ := Cx_fM hC2 g
      have hFτ : Fr D M 0 τ := by
        refine ⟨fun p x hx => ?_, fun k hk => by rw [Nat.mul_zero, Nat.zero_add, h26 k hk]; exact gv_0 D⟩
        obtain ⟨hcx, hfx, hp40, t', m, fs, k, id, lg, a1, a2, a3, a4, a5, a6, a7, a8, a9, a10, -⟩ := Cx_node hCτ hx
        exact ⟨0, k, a7, a10, by rw [Nat.mul_zero, Nat.zero_add, h24 p hp40]; rfl, Nat.two_pow_pos _, fun z => absurd rfl z⟩
      have fτ : fF σ τ := fr_trans f2' (fM_F g)
      have hMt : Mt D τ := ⟨0, c3, by decide, fun i hi => by omega⟩
      have ends : ∀ υ, fF σ υ → Cx D M υ → Mt D υ → ((gS υ 11 6) ≤ (50 : Int32) → Q (gS υ 11 6) υ) ∧ (¬ (gS υ 11 6) ≤ (50 : Int32) → Q (-4 : Int32) (wS υ 11 6 (0 : Int32))) := fun υ fu hCu hmu => by
        obtain ⟨c, q1, q2, q3⟩ := hmu
        refine ⟨fun z => H _ υ fu ?_, fun _ => H _ _ (fr_wS fu (by simp)) (MG_0 (Ins_11 hCu.1) (wS_at _ _ _ _))⟩
        rw [q1] at z
        exact Mt_MG hCu.1 q1 ((nI_leI (b := 50) (by omega) (by decide)).mp z) q3
      refine x_idOf (d := d + 84) hCτ.1.1 hCτ.1.2.1 hW (by have := hfW.1; omega) (fr_R fτ fF_S fF_P hrW) (fun i hi => ?_) (fun hno => absurd hWD hno)
      have key := x_assigned (D := D) (M := M) (f := 0) (by decide) 40 0 (by omega) 0 i (d + 83) P W τ (fun r2 σ2 => (r2 = 0 → ((gS σ2 11 6) ≤ (50 : Int32) → Q (gS σ2 11 6) σ2) ∧ (¬ (gS σ2 11 6) ≤ (50 : Int32) → Q (-4 : Int32) (wS σ2 11 6 (0 : Int32)))) ∧ (¬ r2 = 0 → am_K ru am_Lx IX3_search (d + 127) [.ref 11, .int (0 : Int32)] σ2 (fun _ σ3 => ((gS σ3 11 6) ≤ (50 : Int32) → Q (gS σ3 11 6) σ3) ∧ (¬ (gS σ3 11 6) ≤ (50 : Int32) → Q (-4 : Int32) (wS σ3 11 6 (0 : Int32)))))) hCτ hFτ h0 hi (fun w υ hw g2 hF2 => ⟨fun _ => ends υ (fr_trans fτ (fM_F (fN_M g2))) (Cx_fN hCτ g2) (Mt_fN hMt g2), fun w0 => ?_⟩)
      · exact key
      · have hs := x_search (D := D) (M := M) 40 0 (by omega) d υ (fun _ σ3 => ((gS σ3 11 6) ≤ (50 : Int32) → Q (gS σ3 11 6) σ3) ∧ (¬ (gS σ3 11 6) ≤ (50 : Int32) → Q (-4 : Int32) (wS σ3 11 6 (0 : Int32)))) (Cx_fN hCτ g2) (hF2 (hw.resolve_left w0)) (Mt_fN hMt g2) (fun τ3 g3 hm3 => ends τ3 (fr_trans fτ (fr_trans (fM_F (fN_M g2)) (fM_F g3))) (Cx_fM (Cx_fN hCτ g2) g3) hm3)
        exact hs
    have l53 : ∀ (c j : Nat) (τ : am_S), j + c = 4 → fM 0 τ2 τ → gS τ 11 6 = 0 → (∀ i, i < 40 → gA τ 24 i = 0) → (∀ i, i < j → gJ τ 26 i = 0) → am_X ri am_Lx IX3_found (d + 127 + 1) 53 [some (.ref 11), some (.ref t), some (.ref u), some (.int (nI j))] [] τ Q := by
      intro c
      induction c with
      | zero =>
        intro j τ hj g c3 h24 h26
        exact vX3_found_53 ⟨fun _ => fin τ g c3 h24 (fun i hi => h26 i (by omega)), fun z => absurd (nI_le (a := 4) (b := j) (by omega) (by omega)) z⟩
      | succ c ih =>
        intro j τ hj g c3 h24 h26
        refine vX3_found_53 ⟨fun z => absurd z (nI_ge (a := j) (b := 4) (by omega) (by omega)), fun _ => ⟨vp_in_nI (by omega) (by omega), ?_⟩⟩
        rw [nI_clamp (by omega), nI_1]
        refine ih (j + 1) _ (by omega) (fM_trans g (fN_M (fN_26 fN_rfl (by omega)))) c3 h24 (fun i hi => ?_)
        by_cases e : i = j
        · rw [e, wJ_at]
        · rw [wJ_ne (by omega)]
          exact h26 i (by omega)
    have l32 : ∀ (c j : Nat) (τ : am_S), j + c = 40 → fM 0 τ2 τ → gS τ 11 6 = 0 → (∀ i, i < j → gA τ 24 i = 0) → am_X ri am_Lx IX3_found (d + 127 + 1) 32 [some (.ref 11), some (.ref t), some (.ref u), some (.int (nI j))] [] τ Q := by
      intro c
      induction c with
      | zero =>
        intro j τ hj g c3 h24
        exact vX3_found_32 ⟨fun _ => l53 4 0 τ (by omega) g c3 (fun i hi => h24 i (by omega)) (fun i hi => by omega), fun z => absurd (nI_le (a := 40) (b := j) (by omega) (by omega)) z⟩
      | succ c ih =>
        intro j τ hj g c3 h24
        refine vX3_found_32 ⟨fun z => absurd z (nI_ge (a := j) (b := 40) (by omega) (by omega)), fun _ => ⟨vp_in_nI (by omega) (by omega), ?_⟩⟩
        rw [nI_clamp (by omega), nI_1]
        refine ih (j + 1) _ (by omega) (fM_trans g (fN_M (fN_24 fN_rfl (by omega)))) c3 (fun i hi => ?_)
        by_cases e : i = j
        · rw [e, wA_at]
        · rw [wA_ne (by omega)]
          exact h24 i (by omega)
    exact l32 40 0 τ2 (by omega) fM_rfl c2 (fun i hi => by omega)
  · have hI2 : Ins D τ2 := Ins_fr hI f2 (by decide) (by decide) (by decide) (by decide) (by decide) (by decide)
    exact H 0 τ2 (fr_trans f1' (fT_F f2)) (MG_0 hI2 ((f2.1 11 6 (by decide)).trans c1))
theorem x_match {σ : am_S} {d : Nat} {a b : Int32} {Q : Int32 → am_S → Prop} (hV : Sx σ V) (hG : MG σ) (H : ∀ r τ, fF σ τ → MG τ → Q r τ) : am_K ri am_Lx IX10_match (d + 129) [.ref 0, .int a, .int b] σ Q := by
  have no : ∀ r, Q r σ := fun r => H r σ fr_rfl hG
  refine vX10_match (xs_slot (d := d + 127) (fun k hk ea => ⟨fun _ => no _, fun _ => xs_slot (d := d + 127) (fun l hl eb => ⟨fun _ => ⟨by rw [ea]; exact vp_in_nI hk (by decide), ?_⟩, fun _ => no _⟩) (fun _ => ⟨fun z => absurd rfl z, fun _ => no _⟩)⟩) (fun _ => ⟨fun _ => no _, fun z => absurd rfl z⟩))
  have vl : vp_in b 16 := by rw [eb]; exact vp_in_nI hl (by decide)
  rw [ea, nI_clamp (n := k) (by omega)]
  rcases hV k hk with ⟨-, v2⟩ | ⟨x, p, -, v2, hc, hf, hr⟩
  · exact o_n v2 ⟨vl, fun _ => no _, fun _ _ => no _⟩
  rw [eb, nI_clamp (n := l) (by omega), ← eb]
  rcases hV l hl with ⟨-, w2⟩ | ⟨y, p2, -, w2, hc2, hf2, hr2⟩
  · exact o_s v2 ⟨vl, o_n w2 (no _)⟩
  exact o_s v2 ⟨vl, o_s w2 ⟨Rp_T hr, vJ6_bitCount_0f7a4 ⟨fun _ => no _, fun _ => ⟨Rp_T hr2, fun _ => x_mfound (d := d) hc hf hr hc2 hf2 hr2 H, fun _ => no _⟩⟩⟩⟩
def bigT : Tm := node 3 0 (List.replicate 9 (node 1 0 []))
theorem bigT_Can : Can bigT := by
  have h0 : Can (node 1 0 []) := Can_mk (Or.inr (Or.inl ⟨rfl, by decide, rfl⟩)) (fun _ z => by cases z)
  refine Can_mk (Or.inr (Or.inr (Or.inr ⟨Or.inl rfl, rfl, by decide, ?_, fun y hy => ?_⟩))) (fun y hy => ?_)
  · refine List.pairwise_of_forall_mem_list fun a ha b hb => ?_
    rw [(List.mem_replicate.mp ha).2, (List.mem_replicate.mp hb).2]
    exact tlt_irr _
  · rw [(List.mem_replicate.mp hy).2]
    decide
  · rw [(List.mem_replicate.mp hy).2]
    exact h0
theorem bigT_big : ¬ fits bigT := fun h => absurd (fits_node.mp h).1 (by decide)
theorem Ro_big (σ : am_S) : Ro σ none bigT := ⟨bigT_Can, Or.inr ⟨bigT_big, rfl⟩⟩
theorem x_made {D : List Tm} {σ : am_S} {d : Nat} {v : Int64} {Q : Option Nat → am_S → Prop} (hI : Ins D σ) (hv : gv D v) (h3 : gS σ 3 3 = nI 0) (hb : bud 2 13 σ) (H : ∀ o τ y, gw [(3, 3)] [] [] [5, 6] 2 13 σ τ → gS τ 3 3 = nI 0 → Ro τ o y → Q o τ) : am_K rn am_Lx IX1_made (d + 44) [.ref 12, .long v, .ref 3] σ Q := by
  obtain ⟨k, l, hk, hl, rfl, hk2⟩ := hv
  have hD40 := hI.2.1
  have hg := idl_rG hl hD40
  have h8 := hg.1
  -- the pushes
  have loop : ∀ (c i : Nat) (xs : List Tm) (τ : am_S), i + c = l.length → xs.length = i → gw [(3, 3)] [] [] [5] 0 0 σ τ → gS τ 3 3 = nI i → (∀ j y, xs[j]? = some y → Ro τ (gP τ 5 j) y) → am_X rn am_Lx IX1_made (d + 43 + 1) 15 [some (.ref 12), some (.long (lN (rE k l))), none, some (.ref 3), some (.int (nI 0)), some (.int (nI l.length)), some (.int (nI i))] [] τ Q := by
    intro c
    induction c with
    | zero =>
      intro i xs τ hi hxs g g3 hR
      have hbτ : bud 2 13 τ := bud_gw (c := 0) (s := 0) (by simpa using hb) g
      refine vX1_made_15 ⟨fun _ => r_kind (d := d + 42) hk hg ?_, fun z => absurd (nI_le (by omega) (by omega)) z⟩
      have wrap : ∀ o υ y, gw [(3, 3)] [] [] [6] 2 13 τ υ → gS υ 3 3 = nI 0 → Ro υ o y → (o = none → Q none υ) ∧ (∀ t3, o = some t3 → Q (some t3) υ) := fun o υ y q1 q2 q3 => by
        have hQ := H o υ y (by
          have := gw_trans (gw_mono (S' := [(3, 3)]) (A' := []) (J' := []) (P' := [5, 6]) g (by simp) (by simp) (by simp) (by simp) (Nat.le_refl _) (Nat.le_refl _)) (gw_mono (S' := [(3, 3)]) (A' := []) (J' := []) (P' := [5, 6]) q1 (by simp) (by simp) (by simp) (by simp) (Nat.le_refl _) (Nat.le_refl _))
          simpa using this) q2 q3
        exact ⟨fun e => by rw [e] at hQ; exact hQ, fun t3 e => by rw [e] at hQ; exact hQ⟩
      by_cases h0 : i = 0
      · -- nothing was put
        subst h0
        refine vX2_together ⟨fun z => absurd z (by decide), fun _ => ⟨fun z => ?_, fun _ => ?_⟩⟩
        · rw [g3] at z
          exact absurd z (by decide)
        · exact wrap none τ bigT gw_rfl g3 (Ro_big τ)
      · by_cases h1 : i = 1
        · subst h1
          refine vX2_together ⟨fun z => absurd z (by decide), fun _ => ⟨fun _ => ⟨fun z => ?_, fun _ => ⟨vp_in_nI (by decide) (by decide), ?_, ?_⟩⟩, fun z => ?_⟩⟩
          · rw [g3] at z
            exact absurd (by decide) z
          · intro e
            rw [show (nI 0).toNatClampNeg = 0 from rfl] at e
            obtain ⟨y, hy⟩ : ∃ y, xs[0]? = some y := ⟨xs[0]'(by omega), List.getElem?_eq_getElem (by omega)⟩
            have hRo := hR 0 y hy
            have q1 : gw [(3, 3)] [] [] [6] 2 13 τ (wS τ 3 3 (nI 0)) := gw_mono (gw_wS gw_rfl (by simp) (by omega) : gw [(3, 3)] [] [] [] 0 0 τ (wS τ 3 3 (nI 0))) (by simp) (by simp) (by simp) (by simp) (by omega) (by omega)
            have := (wrap (gP τ 5 0) (wS τ 3 3 (nI 0)) y q1 (wS_at _ _ _ _) (Ro_ext hRo (gw_ext q1)))
            rw [e] at this
            exact this
          · intro t1 e
            rw [show (nI 0).toNatClampNeg = 0 from rfl] at e
            obtain ⟨y, hy⟩ : ∃ y, xs[0]? = some y := ⟨xs[0]'(by omega), List.getElem?_eq_getElem (by omega)⟩
            have hRo := hR 0 y hy
            have q1 : gw [(3, 3)] [] [] [6] 2 13 τ (wS τ 3 3 (nI 0)) := gw_mono (gw_wS gw_rfl (by simp) (by omega) : gw [(3, 3)] [] [] [] 0 0 τ (wS τ 3 3 (nI 0))) (by simp) (by simp) (by simp) (by simp) (by omega) (by omega)
            have := (wrap (gP τ 5 0) (wS τ 3 3 (nI 0)) y q1 (wS_at _ _ _ _) (Ro_ext hRo (gw_ext q1)))
            rw [e] at this
            exact this
          · rw [g3] at z
            exact absurd (by decide) z
        · exact x_together (d := d) (mk := 0) (xs := xs) (hk2 (by omega)) (fun e => by rw [e] at hxs; simp at hxs; omega) (by omega) (by rw [g3, hxs, Nat.zero_add]) (fun j y hy => by rw [Nat.zero_add]; exact hR j y hy) hbτ (fun o υ q1 q2 q3 => wrap o υ _ q1 q2 q3)
    | succ c ih =>
      intro i xs τ hi hxs g g3 hR
      have hil : i < l.length := by omega
      obtain ⟨a, ha, haD⟩ := idD hl hil
      refine vX1_made_15 ⟨fun z => absurd z (nI_ge (by omega) (by omega)), fun _ => r_at (d := d + 42) hk hg hil ?_⟩
      rw [ha, nI_clamp (n := a + 1) (by omega), nI_1]
      obtain ⟨u, hu1, hu2⟩ := hI.1.2.2.1 a _ (List.getElem?_eq_getElem haD)
      obtain ⟨hcy, hfy⟩ := hI.1.2.2.2 _ (List.getElem_mem haD)
      have hu1' : gP τ 13 (a + 1) = some u := by rw [gw_P g (by omega) (by simp)]; exact hu1
      have hRu : Ro τ (some u) D[a] := ⟨hcy, Or.inl ⟨hfy, u, rfl, Rp_ext (gw_ext g) hu2⟩⟩
      refine ⟨vp_in_nI (by omega) (by omega), o_s hu1' ((x_push (d := d + 42) (mk := i) (by omega) g3 hRu ?_).2 u rfl)⟩
      have g4 : gw [(3, 3)] [] [] [5] 0 0 τ (wS (wP τ 5 i (some u)) 3 3 (nI (i + 1))) := gw_wS (gw_wP gw_rfl (by simp) (by omega)) (by simp) (by omega)
      refine ih (i + 1) (xs ++ [D[a]]) _ (by omega) (by rw [List.length_append, hxs]; rfl) (by simpa using gw_trans g g4) (wS_at _ _ _ _) (fun j y hy => ?_)
      show Ro _ (gP (wP τ 5 i (some u)) 5 j) y
      by_cases e : j = i
      · subst e
        rw [List.getElem?_append_right (by omega), hxs, Nat.sub_self] at hy
        have ey : D[a] = y := Option.some.inj hy
        rw [wP_at, ← ey]
        exact Ro_ext hRu (gw_ext g4)
      · have hjl : j < xs.length := by
          have := (List.getElem?_eq_some_iff.mp hy).1
          rw [List.length_append] at this
          have h1 : ([D[a]] : List Tm).length = 1 := rfl
          omega
        rw [List.getElem?_append_left hjl] at hy
        rw [wP_ne (by omega)]
        exact Ro_ext (hR j y hy) (gw_ext g4)
  refine vX1_made (vX2_mark ?_)
  rw [h3]
  exact r_size (d := d + 42) hk hg (loop l.length 0 [] σ (by omega) rfl gw_rfl h3 (fun j y hy => by simp at hy))
theorem MG_gw {σ τ : am_S} {S : List (Nat × Nat)} {A J P : List Nat} {c s : Nat} (h : MG σ) (g : gw S A J P c s σ τ) (h1 : (11, 6) ∉ S) (h2 : (12, 3) ∉ S) (h3 : 13 ∉ P) (h4 : 14 ∉ J) (h5 : 15 ∉ J) (h6 : 27 ∉ J) : MG τ := by
  obtain ⟨D, n, ⟨⟨a1, a2, a3, a4⟩, a5, a6, a7⟩, b1, b2, b3⟩ := h
  refine ⟨D, n, ⟨⟨(gw_S g (by omega) h2).trans a1, a2, fun i x hx => ?_, a4⟩, a5, a6, fun i x hx => rw_fr (a7 i x hx) (by rw [gw_J g h4]) (by rw [gw_J g h5])⟩, (gw_S g (by omega) h1).trans b1, b2, fun i hi => by rw [gw_J g h6]; exact b3 i hi⟩
  obtain ⟨t, e1, e2⟩ := a3 i x hx
  exact ⟨t, by rw [gw_P g (by omega) h3]; exact e1, Rp_ext (gw_ext g) e2⟩
theorem x_has11 {σ : am_S} {d : Nat} {i : Int32} {Q : Int32 → am_S → Prop} (hG : MG σ) (H0 : Q 0 σ) (H1 : ∀ D c j, Ins D σ → gS σ 11 6 = nI c → c ≤ 50 → (∀ i, i < 4 * c → gv D (gJ σ 27 i)) → i = nI j → j < c → Q 1 σ) : am_K ri am_Lx IX3_has (d + 1) [.ref 11, .int i] σ Q := by
  obtain ⟨D, c, h1, h2, h3, h4⟩ := hG
  refine vX3_has ⟨fun _ => H0, fun z => ?_⟩
  rw [h2]
  refine ⟨fun _ => H0, fun w => ?_⟩
  have z1 : 0 ≤ i.toInt := by
    have := Int32.le_iff_toInt_le.mp (Int32.not_lt.mp z)
    exact this
  have w1 : i.toInt < c := by
    have := Int32.lt_iff_toInt_lt.mp (Int32.not_le.mp w)
    rwa [nI_toInt (by omega)] at this
  obtain ⟨j, -, hj, e⟩ := i_2 (n := i) (lo := 0) (hi := 49) (by decide) ⟨z1, by omega⟩
  rw [e, nI_toInt (by omega)] at w1
  exact H1 D c j h1 h2 h3 h4 e (by omega)
theorem x_mput {σ : am_S} {d : Nat} {i v : Int32} {Q : Option Nat → am_S → Prop} (hG : MG σ) (h3 : gS σ 3 3 = nI 0) (hb : bud 2 13 σ) (H : ∀ o τ y, gw [(3, 3)] [] [] [5, 6] 2 13 σ τ → gS τ 3 3 = nI 0 → Ro τ o y → Q o τ) : am_K rn am_Lx IX3_put (d + 45) [.ref 11, .int i, .int v, .ref 3] σ Q := by
  refine vX3_put (x_has11 (d := d + 43) hG ⟨fun _ => H none σ bigT (gw_mono (gw_rfl : gw [] [] [] [] 0 0 σ σ) (by simp) (by simp) (by simp) (by simp) (by omega) (by omega)) h3 (Ro_big σ), fun z => absurd rfl z⟩ fun D c j hI hc hc50 hgv ei hj => ⟨fun z => absurd z (by decide), fun _ => x_rank (d := d + 42) fun r hr => ?_⟩)
  rw [ei, ix4, nI_clamp (by omega)]
  refine ⟨vp_in_nI (by omega) (by omega), x_made (d := d) hI (hgv _ (by omega)) h3 hb fun o τ y q1 q2 q3 => ?_⟩
  have hQ := H o τ y q1 q2 q3
  exact ⟨fun e => by rw [e] at hQ; exact hQ, fun t4 e => by rw [e] at hQ; exact hQ⟩
end MC
section MC2
variable {V : Sv} {σ : am_S}
theorem x_matched {d : Nat} {i v u : Int32} {Q : Int32 → am_S → Prop} (hV : Sx σ V) (hG : MG σ) (h3 : gS σ 3 3 = nI 0) (hb : bud 2 13 σ) (H : ∀ r τ V', gw [(3, 3)] [] [] [1, 5, 6] 2 13 σ τ → gS τ 3 3 = nI 0 → Sx τ V' → Q r τ) : am_K ri am_Lx IX10_matched (d + 46) [.ref 0, .int i, .int v, .int u] σ Q := by
  have no : ∀ r, Q r σ := fun r => H r σ V (gw_mono (gw_rfl : gw [] [] [] [] 0 0 σ σ) (by simp) (by simp) (by simp) (by simp) (by omega) (by omega)) h3 hV
  refine vX10_matched (x_has11 (d := d + 44) hG ⟨fun _ => no _, fun z => absurd rfl z⟩ fun D c j hI hc hc50 hgv ei hj => ⟨fun z => absurd z (by decide), fun _ => ⟨fun _ => no _, fun _ => ⟨fun _ => no _, fun _ => xs_slot (d := d + 44) (fun w hw ew => ⟨fun _ => vX3_inPattern ⟨fun _ => ⟨fun z => absurd rfl z, fun _ => no _⟩, fun _ => ⟨fun _ => ?_, fun z => absurd z (by decide)⟩⟩, fun z => absurd z (by decide)⟩) (fun _ => ⟨fun z => absurd rfl z, fun _ => no _⟩)⟩⟩⟩)
  refine x_mput (d := d) hG h3 hb fun o τ y q1 q2 q3 => ?_
  have hV2 : Sx τ V := Sx_ext hV (gw_ext q1) (gw_P q1 (by omega) (by simp))
  have g1 : gw [(3, 3)] [] [] [1, 5, 6] 2 13 σ τ := gw_mono q1 (by simp) (by simp) (by simp) (by simp) (Nat.le_refl _) (Nat.le_refl _)
  rw [ew]
  refine x_kept (d := d + 44) hw q3 hV2 (fun hff υ k1 k2 => ?_) (fun _ => H _ τ V g1 q2 hV2)
  have g2 := gw_trans g1 (gw_mono (S' := [(3, 3)]) (A' := []) (J' := []) (P' := [1, 5, 6]) k1 (by simp) (by simp) (by simp) (by simp) (Nat.le_refl _) (Nat.le_refl _))
  exact H _ υ _ (by simpa using g2) (by rw [gw_S k1 (by omega) (by simp)]; exact q2) k2
theorem x_instance {d : Nat} {i s u : Int32} {Q : Int32 → am_S → Prop} (hV : Sx σ V) (hG : MG σ) (hl : lts σ) (h3 : gS σ 3 3 = nI 0) (hb : bud 124 806 σ) (H : ∀ r τ V', gw [(3, 3)] [] [] [1, 2, 5, 6] 124 806 σ τ → gS τ 3 3 = nI 0 → Sx τ V' → Q r τ) : am_K ri am_Lx IX10_instance (d + 90) [.ref 0, .int i, .int s, .int u] σ Q := by
  have no : ∀ r, Q r σ := fun r => H r σ V (gw_mono (gw_rfl : gw [] [] [] [] 0 0 σ σ) (by simp) (by simp) (by simp) (by simp) (by omega) (by omega)) h3 hV
  refine vX10_instance (x_has11 (d := d + 88) hG ⟨fun _ => no _, fun z => absurd rfl z⟩ fun D c j hI hc hc50 hgv ei hj => ⟨fun z => absurd z (by decide), fun _ => xs_slot (d := d + 88) (fun k hk ek => ⟨fun z => absurd z (by decide), fun _ => xs_slot (d := d + 88) (fun w hw ew => ⟨fun _ => ⟨by rw [ek]; exact vp_in_nI hk (by decide), ?_⟩, fun z => absurd z (by decide)⟩) (fun _ => ⟨fun z => absurd rfl z, fun _ => no _⟩)⟩) (fun _ => ⟨fun _ => no _, fun z => absurd rfl z⟩)⟩)
  rw [ek, nI_clamp (n := k) (by omega), ← ek]
  rcases hV k hk with ⟨-, v2⟩ | ⟨x, p, -, v2, hcx, hfx, hrx⟩
  · exact o_n v2 (no _)
  refine o_s v2 ?_
  have hlx := hfx.1
  have loop : ∀ (e v : Nat) (τ : am_S), v + e = 22 → gw [(3, 3)] [] [] [2, 5, 6] (2 * v) (13 * v) σ τ → gS τ 3 3 = nI 0 → (∀ a, a < v → ∃ y, Ro τ (gP τ 2 a) y) → am_X ri am_Lx IX10_instance (d + 89 + 1) 46 [some (.ref 0), some (.int i), some (.int s), some (.int u), some (.ref p), some (.int (nI v))] [] τ Q := by
    intro e
    induction e with
    | zero =>
      intro v τ hv g g3 hR
      have hv22 : v = 22 := by omega
      subst hv22
      obtain ⟨θ, hθ⟩ : ∃ θ : Nat → Tm, ∀ a, a < 22 → Ro τ (gP τ 2 a) (θ a) := ⟨fun a => if h : a < 22 then (hR a h).choose else bigT, fun a ha => by
        show Ro τ (gP τ 2 a) (if h : a < 22 then (hR a h).choose else bigT)
        rw [dif_pos ha]
        exact (hR a ha).choose_spec⟩
      have hbτ : bud (2 * x.length) (13 * x.length) τ := bud_gw (c := 2 * 22) (s := 13 * 22) ⟨by have := hb.1; omega, by have := hb.2.1; omega, hb.2.2.1, hb.2.2.2⟩ g
      refine vX10_instance_46 ⟨fun _ => ?_, fun z => absurd (by decide) z⟩
      have key := x_replaced (θ := θ) x hcx p 0 0 (d + 46 - x.length) τ (fun r1 σ1 => (r1 = none → am_K ri am_Lx IX10_kept (d + 89) [.ref 0, .int u, .null] σ1 (fun r2 σ2 => Q r2 σ2)) ∧ (∀ t3, r1 = some t3 → am_K ri am_Lx IX10_kept (d + 89) [.ref 0, .int u, .ref t3] σ1 (fun r4 σ4 => Q r4 σ4))) hfx (Rp_ext (gw_ext g) hrx) (by omega) (by omega) g3 hθ hbτ (fun o υ q1 q2 _ q3 => ?_)
      · rw [show d + 46 - x.length + 43 + x.length = d + 89 by omega] at key
        exact key
      · have g1 : gw [(3, 3)] [] [] [1, 2, 5, 6] 124 806 σ υ := gw_mono (gw_trans g (gw_mono (S' := [(3, 3)]) (A' := []) (J' := []) (P' := [2, 5, 6]) q1 (by simp) (by simp) (by simp) (by simp) (Nat.le_refl _) (Nat.le_refl _))) (by simp) (by simp) (by simp) (by simp) (by omega) (by omega)
        have hV2 : Sx υ V := Sx_ext hV (gw_ext g1) (by rw [gw_P q1 (by omega) (by simp), gw_P g (by omega) (by simp)])
        rw [ew]
        refine x_kept (d := d + 88) hw q3 hV2 (fun hff υ2 k1 k2 => ?_) (fun _ => H _ υ V g1 q2 hV2)
        have g2 := gw_trans g1 (gw_mono (S' := [(3, 3)]) (A' := []) (J' := []) (P' := [1, 2, 5, 6]) k1 (by simp) (by simp) (by simp) (by simp) (Nat.le_refl _) (Nat.le_refl _))
        exact H _ υ2 _ (by simpa using g2) (by rw [gw_S k1 (by omega) (by simp)]; exact q2) k2
    | succ e ih =>
      intro v τ hv g g3 hR
      have hext := gw_ext g
      -- the next one is put
      have go : ∀ o υ y, gw [(3, 3)] [] [] [5, 6] 2 13 τ υ → gS υ 3 3 = nI 0 → Ro υ o y → am_X ri am_Lx IX10_instance (d + 89 + 1) 46 [some (.ref 0), some (.int i), some (.int s), some (.int u), some (.ref p), some (.int (nI v + (1 : Int32)))] [] (wP υ 2 v o) Q := fun o υ y q1 q2 q3 => by
        have gp : gw [] [] [] [2] 0 0 υ (wP υ 2 v o) := gw_wP gw_rfl (by simp) (by omega)
        have g1 : gw [(3, 3)] [] [] [2, 5, 6] 2 13 τ (wP υ 2 v o) := by
          have := gw_trans (gw_mono (S' := [(3, 3)]) (A' := []) (J' := []) (P' := [2, 5, 6]) q1 (by simp) (by simp) (by simp) (by simp) (Nat.le_refl _) (Nat.le_refl _)) (gw_mono (S' := [(3, 3)]) (A' := []) (J' := []) (P' := [2, 5, 6]) gp (by simp) (by simp) (by simp) (by simp) (Nat.le_refl _) (Nat.le_refl _))
          simpa using this
        rw [nI_1]
        refine ih (v + 1) _ (by omega) (gw_mono (gw_trans g g1) (by simp) (by simp) (by simp) (by simp) (by omega) (by omega)) q2 (fun a ha => ?_)
        by_cases ea : a = v
        · rw [ea, wP_at]
          exact ⟨y, Ro_ext q3 (gw_ext gp)⟩
        · rw [wP_ne (by omega), gw_P q1 (by omega) (by simp)]
          obtain ⟨y', hy'⟩ := hR a (by omega)
          exact ⟨y', Ro_ext hy' (gw_ext g1)⟩
      have hvp : vp_in (nI v) 22 := vp_in_nI (by omega) (by omega)
      have hbτ : bud 2 13 τ := bud_gw (c := 2 * v) (s := 13 * v) ⟨by have := hb.1; omega, by have := hb.2.1; omega, hb.2.2.1, hb.2.2.2⟩ g
      have hGτ : MG τ := MG_gw hG g (by decide) (by decide) (by decide) (by decide) (by decide) (by decide)
      refine vX10_instance_46 ⟨fun z => absurd z (nI_ge (a := v) (b := 22) (by omega) (by omega)), fun _ => vX3_inPattern ⟨fun _ => ⟨fun _ => ?_, fun z => absurd rfl z⟩, fun _ => ⟨fun z => absurd z (by decide), fun _ => ?_⟩⟩⟩
      · rw [nI_clamp (n := v) (by omega)]
        refine x_variable (d := d + 88) (lts_gw hl g (by decide)) (by omega) fun o hRo => ⟨fun eo => ⟨hvp, ?_⟩, fun t7 eo => ⟨hvp, ?_, ?_⟩⟩
        · have := go o τ _ (gw_mono (gw_rfl : gw [] [] [] [] 0 0 τ τ) (by simp) (by simp) (by simp) (by simp) (by omega) (by omega)) g3 hRo
          rw [eo] at this
          exact this
        · rw [eo] at hRo
          obtain ⟨-, ⟨-, t', et, hR'⟩ | ⟨-, z⟩⟩ := hRo
          · cases et
            exact Rp_T hR'
          · cases z
        · have := go o τ _ (gw_mono (gw_rfl : gw [] [] [] [] 0 0 τ τ) (by simp) (by simp) (by simp) (by simp) (by omega) (by omega)) g3 hRo
          rw [eo] at this
          exact this
      · rw [nI_clamp (n := v) (by omega)]
        refine x_mput (d := d + 44) hGτ g3 hbτ fun o υ y q1 q2 q3 => ⟨fun eo => ⟨hvp, ?_⟩, fun t9 eo => ⟨hvp, ?_, ?_⟩⟩
        · have := go o υ y q1 q2 q3
          rw [eo] at this
          exact this
        · rw [eo] at q3
          obtain ⟨-, ⟨-, t', et, hR'⟩ | ⟨-, z⟩⟩ := q3
          · cases et
            exact Rp_T hR'
          · cases z
        · have := go o υ y q1 q2 q3
          rw [eo] at this
          exact this
  exact loop 22 0 σ (by omega) (gw_mono (gw_rfl : gw [] [] [] [] 0 0 σ σ) (by simp) (by simp) (by simp) (by simp) (by omega) (by omega)) h3 (fun a ha => by omega)
end MC2
