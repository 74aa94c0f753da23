/-! ===== class Maker: together ===== -/
section TG
variable {σ σ0 τ : am_S}
theorem ins_length (y : Tm) (L : List Tm) : (ins y L).length = L.length + 1 := by rw [(ins_perm y L).length_eq, List.length_cons]
theorem get_lt {α : Type} {L : List α} {i : Nat} {y : α} (h : L[i]? = some y) : i < L.length := by
  rcases Nat.lt_or_ge i L.length with h1 | h1
  · exact h1
  · rw [List.getElem?_eq_none h1] at h; cases h
theorem get_mem {α : Type} {L : List α} {i : Nat} {y : α} (h : L[i]? = some y) : y ∈ L := by
  have := get_lt h
  rw [List.getElem?_eq_getElem this] at h
  cases h
  exact List.getElem_mem _
theorem x_placed {t d : Nat} {y : Tm} {L : List Tm} {Q : Int32 → am_S → Prop} (hL : L.length < 8) (hs : so L) (hC : ∀ z ∈ L, Can z ∧ fits z) (hy : Can y) (hf : fits y) (ht : Rp σ t y) (hr : ∀ i z, L[i]? = some z → ∃ u, gP σ 6 i = some u ∧ Rp σ u z) (H : ∀ τ, gw [] [] [] [6] 0 0 σ τ → (∀ i z, (ins y L)[i]? = some z → ∃ u, gP τ 6 i = some u ∧ Rp τ u z) → Q (nI (L.length + 1)) τ) : am_K ri am_Lx IX2_placed (d + 42) [.ref 3, .ref t, .int (nI L.length)] σ Q := by
  have hw : ∀ z ∈ L, wf z := fun z hz => Can_wf (hC z hz).1
  have fin : ∀ j τ, j ≤ L.length → gw [] [] [] [6] 0 0 σ τ → (∀ i z, i < j → L[i]? = some z → ∃ u, gP τ 6 i = some u ∧ Rp σ u z) → (∀ i z, j ≤ i → L[i]? = some z → (∃ u, gP τ 6 (i + 1) = some u ∧ Rp σ u z) ∧ tlt y z) → (j = 0 ∨ ∃ z, L[j - 1]? = some z ∧ ¬ tlt y z) → Q (nI L.length + 1) (wP τ 6 j (some t)) := by
    intro j τ hj g1 g2 g3 g4
    rw [nI_1]
    have g5 : gw [] [] [] [6] 0 0 σ (wP τ 6 j (some t)) := gw_wP g1 (by simp) (by omega)
    refine H _ g5 fun i z hz => ?_
    rw [ins_at (Can_wf hy) hw hs hj (fun z hz => (g3 j z (Nat.le_refl _) hz).2) g4] at hz
    have hi := get_lt hz
    rw [ins_len hj] at hi
    rw [ins_get hj hi] at hz
    by_cases h1 : i < j
    · rw [if_pos h1] at hz
      obtain ⟨u, u1, u2⟩ := g2 i z h1 hz
      exact ⟨u, by rw [wP_ne (by omega)]; exact u1, Rp_ext (gw_ext g5) u2⟩
    · rw [if_neg h1] at hz
      by_cases h2 : i = j
      · rw [if_pos h2] at hz
        cases hz
        subst h2
        exact ⟨t, wP_at _ _ _ _, Rp_ext (gw_ext g5) ht⟩
      · rw [if_neg h2] at hz
        obtain ⟨⟨u, u1, u2⟩, _⟩ := g3 (i - 1) z (by omega) hz
        rw [show i - 1 + 1 = i by omega] at u1
        exact ⟨u, by rw [wP_ne (by omega)]; exact u1, Rp_ext (gw_ext g5) u2⟩
  have loop : ∀ j τ, j ≤ L.length → gw [] [] [] [6] 0 0 σ τ → (∀ i z, i < j → L[i]? = some z → ∃ u, gP τ 6 i = some u ∧ Rp σ u z) → (∀ i z, j ≤ i → L[i]? = some z → (∃ u, gP τ 6 (i + 1) = some u ∧ Rp σ u z) ∧ tlt y z) → am_X ri am_Lx IX2_placed (d + 42) 15 [some (.ref 3), some (.ref t), some (.int (nI L.length)), some (.int (nI j))] [] τ Q := by
    intro j
    induction j with
    | zero =>
      intro τ hj g1 g2 g3
      exact vX2_placed_15 ⟨fun _ => ⟨vp_in_nI (n := 0) (by omega) (by decide), Rp_T (Rp_ext (gw_ext g1) ht), fin 0 τ hj g1 g2 g3 (Or.inl rfl)⟩, fun z => absurd (by decide : nI 0 ≤ 0) z⟩
    | succ j ih =>
      intro τ hj g1 g2 g3
      have hjL : j < L.length := by omega
      have hm := List.getElem_mem hjL
      obtain ⟨u, u1, u2⟩ := g2 j _ (by omega) (List.getElem?_eq_getElem hjL)
      have u3 := Rp_ext (gw_ext g1) u2
      have t3 := Rp_ext (gw_ext g1) ht
      have hf2 := (hC _ hm).2.1
      have hf3 := hf.1
      refine vX2_placed_15 ⟨fun z => absurd z (nI_nle (by omega) (by omega)), fun _ => ?_⟩
      rw [nI_pred, pk_m1, nI_clamp (n := j) (by omega), nI_clamp (n := j + 1) (by omega)]
      refine ⟨vp_in_nI (by omega) (by decide), o_s u1 ?_⟩
      rw [show d + 41 = (d + 40 - L[j].length) + L[j].length + 1 by omega]
      have done : ¬ tlt y L[j] → ∀ v : Int32, v ≤ 0 → (v ≤ 0 → vp_in (nI (j + 1)) 8 ∧ am_isT am_Lx τ t ∧ Q (nI L.length + 1) (wP τ 6 (j + 1) (some t))) := fun h v _ _ => ⟨vp_in_nI (by omega) (by decide), Rp_T t3, fin (j + 1) τ hj g1 g2 g3 (Or.inr ⟨L[j], by rw [Nat.add_sub_cancel, List.getElem?_eq_getElem hjL], h⟩)⟩
      refine x_compare L[j] (hC _ hm).1 y u t 0 _ τ _ hy u3 t3 (by omega) (by omega) (fun h v hv => ?_) (fun h => ?_) (fun h v hv => ?_)
      · have hv2 : v ≤ 0 := Int32.le_of_lt hv
        exact ⟨done (tlt_asym h) v hv2, fun z => absurd hv2 z⟩
      · exact ⟨done (by rw [h]; exact tlt_irr _) 0 (by decide), fun z => absurd (by decide) z⟩
      · refine ⟨fun z => absurd z (by rw [i_lt] at hv; rw [i_le]; omega), fun _ => ⟨vp_in_nI (by omega) (by decide), o_s u1 ⟨vp_in_nI (by omega) (by decide), Rp_T u3, ?_⟩⟩⟩
        rw [show d + 40 - L[j].length + L[j].length + 1 = d + 41 by omega]
        refine ih _ (by omega) (gw_wP g1 (by simp) (by omega)) (fun i z hi hz => ?_) (fun i z hi hz => ?_)
        · obtain ⟨w, w1, w2⟩ := g2 i z (by omega) hz
          exact ⟨w, by rw [wP_ne (by omega)]; exact w1, w2⟩
        · by_cases e : i = j
          · subst e
            rw [List.getElem?_eq_getElem hjL] at hz
            cases hz
            exact ⟨⟨u, wP_at _ _ _ _, u2⟩, h⟩
          · obtain ⟨⟨w, w1, w2⟩, w3⟩ := g3 i z (by omega) hz
            exact ⟨⟨w, by rw [wP_ne (by omega)]; exact w1, w2⟩, w3⟩
  refine vX2_placed ⟨fun z => absurd z (nI_pos (by omega)), fun _ => pk_lt L.length 8 (fun _ => loop L.length σ (Nat.le_refl _) gw_rfl (fun i z _ hz => hr i z hz) (fun i z hi hz => absurd (get_lt hz) (by omega))) (fun h => by omega)⟩
theorem x_placed_full {t d cn : Nat} {Q : Int32 → am_S → Prop} (h1 : 8 ≤ cn) (h2 : cn ≤ 9) (H : Q (nI 9) σ) : am_K ri am_Lx IX2_placed (d + 1) [.ref 3, .ref t, .int (nI cn)] σ Q := vX2_placed ⟨fun z => absurd z (nI_pos (by omega)), fun _ => pk_lt cn 8 (fun h => by omega) (fun _ => H)⟩
/-- the row holds what was placed, or there was too much -/
def rw6 (τ : am_S) (W : List Tm) (cn : Nat) : Prop := (∀ y ∈ W, Can y ∧ fits y) ∧ ((W.length ≤ 8 ∧ cn = W.length ∧ ∀ i z, (srt W)[i]? = some z → ∃ u, gP τ 6 i = some u ∧ Rp τ u z) ∨ (8 < W.length ∧ cn = 9))
theorem x_place1 {t d cn : Nat} {y : Tm} {W : List Tm} {Q : Int32 → am_S → Prop} (h : rw6 σ W cn) (hy : Can y) (hf : fits y) (ht : Rp σ t y) (H : ∀ τ cn', gw [] [] [] [6] 0 0 σ τ → rw6 τ (W ++ [y]) cn' → Q (nI cn') τ) : am_K ri am_Lx IX2_placed (d + 42) [.ref 3, .ref t, .int (nI cn)] σ Q := by
  obtain ⟨h1, h2⟩ := h
  have h3 : ∀ z ∈ W ++ [y], Can z ∧ fits z := fun z hz => by
    rcases List.mem_append.mp hz with h | h
    · exact h1 z h
    · rw [List.mem_singleton.mp h]; exact ⟨hy, hf⟩
  rcases h2 with ⟨h2, e, h4⟩ | ⟨h2, e⟩
  · rcases Nat.lt_or_ge W.length 8 with h5 | h5
    · have hl := srt_len W
      have := x_placed (σ := σ) (t := t) (d := d) (y := y) (L := srt W) (Q := Q) (by omega) (srt_so fun z hz => Can_wf (h1 z hz).1) (fun z hz => h1 z (srt_mem.mp hz)) hy hf ht h4 (fun τ k1 k2 => ?_)
      · rw [hl, ← e] at this
        exact this
      · rw [hl]
        refine H τ (W.length + 1) k1 ⟨h3, Or.inl ⟨by simp; omega, by simp, ?_⟩⟩
        rw [srt_snoc]
        exact k2
    · exact x_placed_full (d := d + 41) (by omega) (by omega) (H σ 9 gw_rfl ⟨h3, Or.inr ⟨by simp; omega, rfl⟩⟩)
  · exact x_placed_full (d := d + 41) (by omega) (by omega) (H σ 9 gw_rfl ⟨h3, Or.inr ⟨by simp; omega, rfl⟩⟩)
theorem row_mm : ∀ n, n < 9 → (if (0 : Int32) < (if (8 : Int32) < nI n then (8 : Int32) else nI n) then (if (8 : Int32) < nI n then (8 : Int32) else nI n) else (0 : Int32)) = nI n := by decide +kernel
theorem x_rowOf {d : Nat} {L : List Tm} {Q : Nat → am_S → Prop} (hL : L.length ≤ 8) (he : ext σ0 σ) (hr : ∀ i z, L[i]? = some z → ∃ u, gP σ 6 i = some u ∧ Rp σ0 u z) (hb : bud 1 8 σ) (H : ∀ τ, gw [] [] [] [] 1 8 σ τ → isAr τ (gn σ) L.length → (∀ i z, L[i]? = some z → ∃ u, gP τ (gn σ) i = some u ∧ Rp σ0 u z) → (∀ n, n < 48 → gP τ n = gP σ n) → Q (gn σ) τ) : am_K rr am_Lx IX2_rowOf (d + 1) [.ref 3, .int (nI L.length)] σ Q := by
  obtain ⟨b1, b2, b3, b4⟩ := hb
  have loop : ∀ m i τ, i + m = L.length → gw [] [] [] [] 1 8 σ τ → isAr τ (gn σ) L.length → (∀ j z, j < i → L[j]? = some z → ∃ u, gP τ (gn σ) j = some u ∧ Rp σ0 u z) → (∀ n, n < 48 → gP τ n = gP σ n) → am_X rr am_Lx IX2_rowOf (d + 1) 19 [some (.ref 3), some (.int (nI L.length)), some (.int (nI L.length)), some (.ref (gn σ)), some (.int (nI i))] [] τ Q := by
    intro m
    induction m with
    | zero =>
      intro i τ hi g1 g2 g3 g4
      exact vX2_rowOf_19 (pk_le L.length i (fun _ => H τ g1 g2 (fun j z hz => g3 j z (by have := get_lt hz; omega) hz) g4) (fun h => by omega))
    | succ m ih =>
      intro i τ hi g1 g2 g3 g4
      have hiL : i < L.length := by omega
      obtain ⟨u, u1, u2⟩ := hr i _ (List.getElem?_eq_getElem hiL)
      refine vX2_rowOf_19 (pk_le L.length i (fun h => by omega) (fun _ => ?_))
      rw [nI_clamp (n := i) (by omega), nI_1, g4 6 (by omega)]
      refine ⟨vp_in_nI (by omega) (by decide), o_s u1 ⟨ar_R g2, by rw [ar_L g2]; exact vp_in_nI hiL (by omega), Rp_T (Rp_ext (ext_trans he (gw_ext g1)) u2), ?_⟩⟩
      refine ih (i + 1) _ (by omega) (gw_wPd g1 (Nat.le_refl _) b4) g2 (fun j z hj hz => ?_) (fun n hn => ?_)
      · by_cases e : j = i
        · subst e
          rw [List.getElem?_eq_getElem hiL] at hz
          cases hz
          exact ⟨u, wP_at _ _ _ _, u2⟩
        · obtain ⟨w, w1, w2⟩ := g3 j z (by omega) hz
          exact ⟨w, by rw [wP_ne (by omega)]; exact w1, w2⟩
      · rw [← g4 n hn]
        funext q
        exact wP_ne (by omega)
  refine vX2_rowOf ?_
  rw [row_mm _ (by omega), nI_clamp (n := L.length) (by omega)]
  have g1 := gw_nA (σ := σ) (S := []) (A := []) (J := []) (P := []) (c := 0) (s := 0) (n := L.length) gw_rfl b1 (by omega) b4
  refine ⟨nI_pos (by omega), by omega, b1, by omega, loop L.length 0 _ (by omega) (gw_mono g1 (fun _ h => h) (fun _ h => h) (fun _ h => h) (fun _ h => h) (by omega) (by omega)) (nA_isA b4) (fun j z hj => absurd hj (Nat.not_lt_zero _)) (fun n hn => ?_)⟩
  exact if_neg (by omega)
theorem Rp_kd {t : Nat} {x : Tm} (h : Rp σ t x) : gS σ t 0 = nI (kd x) ∧ gS σ t 1 = nI (nm x) ∧ gS σ t 3 = nI x.length ∧ gS σ t 4 = nI (vb x) := by
  obtain ⟨k', a', M, e, hM⟩ := wf_out (Rp_wf h)
  rw [e] at h ⊢
  obtain ⟨b, g1, g2, _, _, g3, g4, _⟩ := Rp_out hM h
  exact ⟨g1, g2, g3, g4⟩
theorem Rp_pts {t : Nat} {x : Tm} (h : Rp σ t x) : ∃ b, gQ σ t = some b ∧ isAr σ b (pts x).length ∧ ∀ i y, (pts x)[i]? = some y → ∃ u, gP σ b i = some u ∧ Rp σ u y := by
  obtain ⟨k', a', M, e, hM⟩ := wf_out (Rp_wf h)
  rw [e] at h ⊢
  rw [pts_node hM]
  obtain ⟨b, _, _, g1, g2, _, _, g3⟩ := Rp_out hM h
  exact ⟨b, g1, g2, g3⟩
theorem Can_kd {x : Tm} (h : Can x) : kd x ≤ 4 ∧ nm x < 22 := loc_bd (Can_pts h).2.1
theorem fits_pts {x : Tm} (h : Can x) (hf : fits x) : (pts x).length ≤ 8 ∧ ∀ y ∈ pts x, fits y := by
  have e := (Can_pts h).1
  rw [e] at hf
  exact ⟨(fits_node.mp hf).1, fits_part hf⟩
theorem x_together {k mk d : Nat} {xs : List Tm} {Q : Option Nat → am_S → Prop} (hk : k = 3 ∨ k = 4) (hx : xs ≠ []) (hm : mk + xs.length ≤ 128) (ht : gS σ 3 3 = nI (mk + xs.length)) (hs : ∀ i y, xs[i]? = some y → Ro σ (gP σ 5 (mk + i)) y) (hb : bud 2 13 σ) (H : ∀ o τ, gw [(3, 3)] [] [] [6] 2 13 σ τ → gS τ 3 3 = nI mk → Ro τ o (joinT k xs) → Q o τ) : am_K rn am_Lx IX2_together (d + 43) [.ref 3, .int (nI k), .int (nI mk)] σ Q := by
  have hC : ∀ y ∈ xs, Can y := fun y hy => by
    obtain ⟨i, hi, e⟩ := List.getElem_of_mem hy
    exact (hs i y (by rw [List.getElem?_eq_getElem hi, e])).1
  have hCn : Can (joinT k xs) := Can_join hk hC hx
  have hl1 : 1 ≤ xs.length := List.length_pos_iff.mpr hx
  have b4 := hb.2.2.2
  have g0 : gw [(3, 3)] [] [] [6] 0 0 σ (wS σ 3 3 (nI mk)) := gw_wS gw_rfl (by simp) (by omega)
  have wid : ∀ τ, gw [(3, 3)] [] [] [6] 0 0 σ τ → gw [(3, 3)] [] [] [6] 2 13 σ τ := fun τ g => gw_mono g (fun _ h => h) (fun _ h => h) (fun _ h => h) (fun _ h => h) (by omega) (by omega)
  refine vX2_together ⟨fun z => absurd z (nI_pos (by omega)), fun _ => ?_⟩
  rw [ht, pk_sub (Nat.le_add_right _ _), Nat.add_sub_cancel_left]
  refine pk_lt mk (mk + xs.length) (fun _ => And.symm (pk_eq xs.length 1 (fun h => ?_) (fun h => ?_))) (fun h => by omega)
  · -- one alone
    rw [nI_clamp (n := mk) (by omega)]
    have h0 := hs 0 _ (List.getElem?_eq_getElem (by omega))
    rw [Nat.add_zero] at h0
    have e : xs = [xs[0]] := by
      match xs, h with
      | [_], _ => rfl
    have e2 : joinT k xs = xs[0] := (congrArg (joinT k) e).trans (joinT_one hk (hC _ (List.getElem_mem (by omega))))
    refine ⟨vp_in_nI (by omega) (by decide), fun z => ?_, fun t z => ?_⟩
    · rw [z] at h0
      exact H none _ (wid _ g0) (wS_at _ _ _ _) (by rw [e2]; exact Ro_ext h0 (gw_ext g0))
    · rw [z] at h0
      exact H _ _ (wid _ g0) (wS_at _ _ _ _) (by rw [e2]; exact Ro_ext h0 (gw_ext g0))
  · have hl2 : 2 ≤ xs.length := by omega
    have e2 := joinT_two hk hC hl2
    have loop : ∀ m i cn τ, i + m = xs.length → gw [(3, 3)] [] [] [6] 0 0 σ τ → gS τ 3 3 = nI mk → rw6 τ (flK k (xs.take i)) cn → am_X rn am_Lx IX2_together (d + 43) 41 [some (.ref 3), some (.int (nI k)), some (.int (nI mk)), some (.int (nI (mk + xs.length))), some (.int (nI cn)), some (.int (nI (mk + i))), none, none, none, none] [] τ Q := by
      intro m
      induction m with
      | zero =>
        intro i cn τ hi g1 g2 g3
        rw [List.take_of_length_le (by omega)] at g3
        obtain ⟨f1, f2⟩ := g3
        have bu := bud_gw (c := 0) (s := 0) (c' := 2) (s' := 13) (by simpa using hb) g1
        obtain ⟨b1, b2, b3, b5⟩ := bu
        refine vX2_together_41 (pk_le (mk + xs.length) (mk + i) (fun _ => ?_) (fun h => by omega))
        have hcn : cn ≤ 9 := by omega
        refine pk_le cn 8 (fun hc => ?_) (fun hc => ?_)
        · rcases f2 with ⟨f2, e, f3⟩ | f2
          · subst e
            refine ⟨by omega, by omega, ?_⟩
            have n1 := gw_nT (σ := τ) (S := []) (A := []) (J := []) (P := []) (c := 0) (s := 0) gw_rfl (by omega) (by omega) b5
            have hsl := srt_len (flK k xs)
            have bu2 := bud_gw (c := 1) (s := 5) (c' := 1) (s' := 8) (show bud (1 + 1) (5 + 8) τ from ⟨b1, b2, b3, b5⟩) (by simpa using n1)
            have key := x_rowOf (σ := am_nT τ) (σ0 := τ) (d := d + 41) (L := srt (flK k xs)) (Q := fun r1 σ1 => am_K ru am_Lx IX8_init (d + 42) [.ref (gn τ), .int (nI k), .int (0 : Int32), .ref r1] σ1 (fun _ σ2 => am_K rn am_Lx IX2_bounded (d + 42) [.ref (gn τ)] σ2 (fun r3 σ3 => (r3 = none → Q none σ3) ∧ (∀ t4, r3 = some t4 → Q (some t4) σ3)))) (by omega) (gw_ext n1) f3 bu2 (fun υ k1 k2 k3 k4 => ?_)
            · rw [hsl] at key
              exact key
            · have n2 : gw [] [] [] [] 2 13 τ υ := gw_trans n1 k1
              have hC2 : ∀ y ∈ srt (flK k xs), Can y ∧ fits y := fun y hy => f1 y (srt_mem.mp hy)
              have hT2 : isTm υ (gn τ) := by
                have q1 : isTm (am_nT τ) (gn τ) := nT_isT b5
                obtain ⟨q2, q3, q4⟩ := q1
                obtain ⟨p1, -⟩ := (gw_ext k1).2 (gn τ) q2 q3
                exact ⟨q2, Nat.lt_of_lt_of_le q3 (gw_n k1), by rw [p1]; exact q4⟩
              have hgn : gn (am_nT τ) = gn τ + 1 := rfl
              have hgc : gc (am_nT τ) = gc τ - 1 := rfl
              refine x_init (a := 0) (d := d + 41) (fun y hy => Can_wf (hC2 y hy).1) (by omega) (by omega) hT2 k2 (by have := bu2.2.2.1; omega) n2 b5 (Nat.le_refl _) (by omega) k3 (fun ω p1 p2 p3 _ p4 => ?_)
              have hff := fits_flat fun y hy => (hC2 y hy).2
              have hl : (node k 0 (srt (flK k xs))).length ≤ 321 := by
                rw [node_len]
                omega
              have p5 : gw [(3, 3)] [] [] [6] 2 13 σ ω := by
                have := gw_trans g1 (gw_mono (S' := [(3, 3)]) (A' := []) (J' := []) (P' := [6]) p1 (by simp) (by simp) (by simp) (by simp) (Nat.le_refl _) (Nat.le_refl _))
                simpa using this
              have p6 : gS ω 3 3 = nI mk := by rw [gw_S p1 (by omega) (by simp)]; exact g2
              refine x_bounded (d := d + 41) p4 (by omega) (fun h => ?_) (fun h => ?_)
              · exact o_s rfl (H _ ω p5 p6 ⟨hCn, Or.inl ⟨(by rw [e2]; exact fits_of (by omega) h fun y hy => (hC2 y hy).2), _, rfl, (by rw [e2]; exact p4)⟩⟩)
              · exact o_n rfl (H _ ω p5 p6 ⟨hCn, Or.inr ⟨fun z => (by rw [e2] at z; have := z.1; omega), rfl⟩⟩)
          · omega
        · refine H none τ (wid τ g1) g2 ⟨hCn, Or.inr ⟨fun z => ?_, rfl⟩⟩
          rw [e2] at z
          have := (fits_node.mp z).1
          rw [srt_len] at this
          omega
      | succ m ih =>
        intro i cn τ hi g1 g2 g3
        have hiL : i < xs.length := by omega
        have hro := hs i _ (List.getElem?_eq_getElem hiL)
        have e5 : gP τ 5 = gP σ 5 := gw_P g1 (by omega) (by simp)
        refine vX2_together_41 (pk_le (mk + xs.length) (mk + i) (fun h => by omega) (fun _ => ?_))
        rw [nI_clamp (n := mk + i) (by omega), e5]
        refine ⟨vp_in_nI (by omega) (by decide), ?_⟩
        cases ho : gP σ 5 (mk + i) with
        | none =>
          rw [ho] at hro
          exact o_n rfl (H none τ (wid τ g1) g2 ⟨hCn, Or.inr ⟨fun z => Ro_none hro (fits_join hk hC z _ (List.getElem_mem hiL)), rfl⟩⟩)
        | some u =>
          rw [ho] at hro
          obtain ⟨f1, f2⟩ := Ro_some hro
          have hCx := hC _ (List.getElem_mem hiL)
          refine o_s rfl ?_
          have f3 : Rp τ u xs[i] := Rp_ext (gw_ext g1) f2
          have next : ∀ cn τ, gw [(3, 3)] [] [] [6] 0 0 σ τ → gS τ 3 3 = nI mk → rw6 τ (flK k (xs.take i) ++ fl1 k xs[i]) cn → am_X rn am_Lx IX2_together (d + 43) 41 [some (.ref 3), some (.int (nI k)), some (.int (nI mk)), some (.int (nI (mk + xs.length))), some (.int (nI cn)), some (.int (nI (mk + i) + 1)), none, none, none, none] [] τ Q := fun cn τ k1 k2 k3 => by
            rw [nI_1, Nat.add_assoc]
            refine ih (i + 1) cn τ (by omega) k1 k2 ?_
            rw [take_snoc hiL, flK_app, flK_one]
            exact k3
          refine ⟨Rp_T f3, ?_⟩
          rw [(Rp_kd f3).1]
          have hkd := (Can_kd hCx).1
          refine And.symm (pk_eq (kd xs[i]) k (fun e => ?_) (fun e => ?_))
          · -- alike
            obtain ⟨b, q1, q2, q3⟩ := Rp_pts f3
            obtain ⟨_, hlc, hCp⟩ := Can_pts hCx
            obtain ⟨hp1, hp2⟩ := fits_pts hCx f1
            have inner : ∀ m j cn τ, j + m = (pts xs[i]).length → gw [(3, 3)] [] [] [6] 0 0 σ τ → gS τ 3 3 = nI mk → Rp τ u xs[i] → gQ τ u = some b → isAr τ b (pts xs[i]).length → (∀ i' y, (pts xs[i])[i']? = some y → ∃ u, gP τ b i' = some u ∧ Rp τ u y) → rw6 τ (flK k (xs.take i) ++ (pts xs[i]).take j) cn → am_X rn am_Lx IX2_together (d + 43) 99 [some (.ref 3), some (.int (nI k)), some (.int (nI mk)), some (.int (nI (mk + xs.length))), some (.int (nI cn)), some (.int (nI (mk + i))), some (.ref u), some (.int (1 : Int32)), some (.int (nI (pts xs[i]).length)), some (.int (nI j))] [] τ Q := by
              intro m
              induction m with
              | zero =>
                intro j cn τ hj k1 k2 k3 k4 k5 k6 k7
                refine vX2_together_99 (pk_le (pts xs[i]).length j (fun _ => next cn τ k1 k2 ?_) (fun h => by omega))
                rw [fl1_eq e]
                rw [List.take_of_length_le (l := pts xs[i]) (by omega)] at k7
                exact k7
              | succ m ihm =>
                intro j cn τ hj k1 k2 k3 k4 k5 k6 k7
                have hjL : j < (pts xs[i]).length := by omega
                have hmem := List.getElem_mem hjL
                obtain ⟨v, v1, v2⟩ := k6 j _ (List.getElem?_eq_getElem hjL)
                refine vX2_together_99 (pk_le (pts xs[i]).length j (fun h => by omega) (fun _ => ⟨fun z => absurd z (by decide), fun _ => ⟨Rp_T k3, o_s k4 ⟨ar_R k5, by rw [ar_L k5]; exact vp_in_nI hjL (by omega), ?_⟩⟩⟩))
                rw [nI_clamp (n := j) (by omega), nI_1]
                refine o_s v1 (x_place1 (d := d) k7 (hCp _ hmem) (hp2 _ hmem) v2 fun υ cn' w1 w2 => ?_)
                have w3 := gw_trans k1 (gw_mono (S' := [(3, 3)]) (A' := []) (J' := []) (P' := [6]) w1 (by simp) (by simp) (by simp) (by simp) (Nat.le_refl _) (Nat.le_refl _))
                have we := gw_ext w1
                have hu := (we.2 u (Rp_T k3).1 (Rp_T k3).2.1)
                have hb5 := (we.2 b k5.1 k5.2.1)
                refine ihm (j + 1) cn' υ (by omega) (by simpa using w3) (by rw [gw_S w1 (by omega) (by simp)]; exact k2) (Rp_ext we k3) (by rw [hu.2.2.1]; exact k4) (isAr_ext we k5) (fun i' y hy => ?_) ?_
                · obtain ⟨z, z1, z2⟩ := k6 i' y hy
                  exact ⟨z, by rw [hb5.2.2.2.2]; exact z1, Rp_ext we z2⟩
                · rw [take_snoc hjL, ← List.append_assoc]
                  exact w2
            refine ⟨Rp_T f3, o_s q1 ⟨ar_A q2, ?_⟩⟩
            rw [ar_L q2]
            exact inner _ 0 cn τ (Nat.zero_add _) g1 g2 f3 q1 q2 q3 (by simpa using g3)
          · -- a part by itself
            refine vX2_together_99 (pk_le 1 0 (fun h => by omega) (fun _ => ⟨fun _ => x_place1 (d := d) g3 hCx f1 f3 fun υ cn' w1 w2 => ?_, fun z => absurd rfl z⟩))
            have w3 := gw_trans g1 (gw_mono (S' := [(3, 3)]) (A' := []) (J' := []) (P' := [6]) w1 (by simp) (by simp) (by simp) (by simp) (Nat.le_refl _) (Nat.le_refl _))
            refine vX2_together_99 (pk_le 1 1 (fun _ => next cn' υ (by simpa using w3) (by rw [gw_S w1 (by omega) (by simp)]; exact g2) ?_) (fun h => by omega))
            rw [fl1_ne e]
            exact w2
    refine loop xs.length 0 0 _ (by omega) g0 (wS_at _ _ _ _) ⟨by simp [flK], Or.inl ⟨by simp [flK], by simp [flK], by simp [flK, srt]⟩⟩
end TG
