/-! ===== reading: X6_product ===== -/
section RDP
variable {bs : List Nat} {a b kk o dx dm : Nat}
theorem jlzP (hb : tok bs) (ha : a ≤ 1) (hb5 : b ≤ 5) (hkk : kk ≤ 100) (ho : o ≤ 8) (hdx : 43 ≤ dx) (hdm : 67 ≤ dm) (item : ∀ p, p ≤ bs.length → jnt IX6_atom IX11_readAtom dx dm (a + 1) b kk bs o p) (p : Nat) (hp : p ≤ bs.length) (ih : ∀ p' q, p < p' → p' ≤ q → q ≤ bs.length → bs[q]? = some 42 → ∀ (xs : List Tm) (p0 : Nat), (∀ x ∈ xs, Can x) → xs.flatten.length + xs.length + p0 ≤ q + 1 → ∃ R : PR, (match R with
    | .inl e => q + 1 ≤ e ∧ e ≤ bs.length ∧ skp bs e = e
    | .inr (p', x) => q + 1 < p' ∧ p' ≤ bs.length ∧ Can x ∧ x.length + p0 ≤ p') ∧ (∀ (σ : am_S) (mk d : Nat) (Q : Option Nat → am_S → Prop), XR bs σ (q + 1) o (mk + xs.length) → mk + xs.length ≤ q + 1 → (∀ i y, xs[i]? = some y → Ro σ (gP σ 5 (mk + i)) y) → bud (2 * (3 * (bs.length - (q + 1)) + (b + 1))) (13 * (3 * (bs.length - (q + 1)) + (b + 1))) σ → xPost bs a (b + 1) o (q + 1) mk σ Q R → am_X rn am_Lx IX6_product (d + dx + 1) 12 [some (.ref 7), some (.int (nI mk)), some (.int (1 : Int32)), some (.int (nI xs.length))] [] σ Q) ∧ (∀ (σ : am_S) (f T d : Nat) (Q : Int32 → am_S → Prop), MR bs σ (q + 1) o (f + xs.length) T → f + xs.length ≤ q + 1 → 17280 ≤ T → T ≤ 17280 + 132 * (q + 1) → ent σ 17280 f T 64 xs → mPost bs a (kk + 1) o (q + 1) f T σ Q R → am_K ri am_Lm IX11_readAtom (d + dm) [.ref 0] σ (fun r σ1 => am_K ru am_Lm IX11_put (d + dm) [.ref 0, .int r] σ1 (fun _ σ2 => am_X ri am_Lm IX11_readProduct (d + dm + 1) 13 [some (.ref 0), some (.int (nI f))] [] σ2 Q)))) : ∀ (xs : List Tm) (p0 : Nat), (∀ x ∈ xs, Can x) → xs.flatten.length + xs.length + p0 ≤ p → ∃ R : PR, (match R with
    | .inl e => p ≤ e ∧ e ≤ bs.length ∧ skp bs e = e
    | .inr (p', x) => p < p' ∧ p' ≤ bs.length ∧ Can x ∧ x.length + p0 ≤ p') ∧ (∀ (σ : am_S) (mk d : Nat) (Q : Option Nat → am_S → Prop), XR bs σ p o (mk + xs.length) → mk + xs.length ≤ p → (∀ i y, xs[i]? = some y → Ro σ (gP σ 5 (mk + i)) y) → bud (2 * (3 * (bs.length - p) + (b + 1))) (13 * (3 * (bs.length - p) + (b + 1))) σ → xPost bs a (b + 1) o p mk σ Q R → am_X rn am_Lx IX6_product (d + dx + 1) 12 [some (.ref 7), some (.int (nI mk)), some (.int (1 : Int32)), some (.int (nI xs.length))] [] σ Q) ∧ (∀ (σ : am_S) (f T d : Nat) (Q : Int32 → am_S → Prop), MR bs σ p o (f + xs.length) T → f + xs.length ≤ p → 17280 ≤ T → T ≤ 17280 + 132 * p → ent σ 17280 f T 64 xs → mPost bs a (kk + 1) o p f T σ Q R → am_K ri am_Lm IX11_readAtom (d + dm) [.ref 0] σ (fun r σ1 => am_K ru am_Lm IX11_put (d + dm) [.ref 0, .int r] σ1 (fun _ σ2 => am_X ri am_Lm IX11_readProduct (d + dm + 1) 13 [some (.ref 0), some (.int (nI f))] [] σ2 Q))) := by
  intro xs p0 hxC hxl
  have h64 := hb.1
  obtain ⟨RI, rf, xi, mi⟩ := item p hp
  have hxw : ∀ x ∈ xs, wf x := fun x hx => Can_wf (hxC x hx)
  have hxl2 : xs.length ≤ xs.flatten.length := by
    rcases Nat.eq_zero_or_pos xs.length with h0 | h0
    · omega
    · have := flat_get hxw (i := xs.length - 1) (by omega)
      have := wf_pos (hxw xs[xs.length - 1] (List.getElem_mem (by omega)))
      omega
  have hk : (4 : Nat) = 3 ∨ (4 : Nat) = 4 := by omega
  cases RI with
  | inl e =>
    obtain ⟨r1, r2⟩ := rf
    refine ⟨.inl e, ⟨r1, r2⟩, ?_, ?_⟩
    · intro σ mk d Q hXR hmk hent hbud hQ
      obtain ⟨hTx, h3, h4, h5, hmk3, hlts⟩ := hXR
      refine vX6_product_12 ⟨fun z => absurd z (by decide), fun _ => pk_le 64 xs.length (fun h => by omega) (fun _ => ?_)⟩
      refine xi σ (mk + xs.length) d _ ⟨hTx, h3, h4, h5, hmk3, hlts⟩ hmk (bud_mono hbud (by omega) (by omega)) (fun τ g1 g2 g3 g4 => o_n rfl ?_)
      have hpush := (x_push (d := d + dx - 1) (σ := τ) (mk := mk + xs.length) (o := none) (x := huge) (Q := fun _ σ6 => (0 ≤ (gS σ6 7 5) → am_X rn am_Lx IX6_product (d + dx + 1) 12 [some (.ref 7), some (.int (nI mk)), some (.int (0 : Int32)), some (.int (nI xs.length + (1 : Int32)))] [] σ6 Q) ∧ (¬ 0 ≤ (gS σ6 7 5) → am_K ri am_Lx IX6_took (d + dx) [.ref 7, .int (42 : Int32)] σ6 (fun r7 σ7 => (r7 = 0 → am_X rn am_Lx IX6_product (d + dx + 1) 12 [some (.ref 7), some (.int (nI mk)), some (.int (0 : Int32)), some (.int (nI xs.length + (1 : Int32)))] [] σ7 Q) ∧ (¬ r7 = 0 → am_X rn am_Lx IX6_product (d + dx + 1) 12 [some (.ref 7), some (.int (nI mk)), some (.int (1 : Int32)), some (.int (nI xs.length + (1 : Int32)))] [] σ7 Q)))) (by omega) g3 Ro_huge ?_).1 rfl
      · rw [show d + dx - 1 + 1 = d + dx by omega] at hpush
        exact hpush
      · generalize hσ1 : wS (wP τ 5 (mk + xs.length) none) 3 3 (nI (mk + xs.length + 1)) = σ1
        have g5 : gw [(3, 3), (7, 3), (7, 4), (7, 5)] [] [] [5, 6] 0 0 τ σ1 := by rw [← hσ1]; exact gw_wS (gw_wP gw_rfl (by simp) (by omega)) (by simp) (by omega)
        have e5 : gS σ1 7 5 = nI e := by rw [← hσ1, wS_ne (by omega)]; exact g2
        rw [e5]
        refine ⟨fun _ => vX6_product_12 ⟨fun _ => ?_, fun z => absurd rfl z⟩, fun z => absurd (nI_pos' (by omega)) z⟩
        have g6 : xF (3 * (e - p) + b) σ σ1 := gw_mono (gw_trans g1 g5) (fun _ h => h) (fun _ h => h) (fun _ h => h) (fun _ h => h) (by omega) (by omega)
        have bu : bud (2 * 1) (13 * 1) σ1 := bud_xF (k := 3 * (e - p) + b) (l := 1) (bud_mono hbud (by omega) (by omega)) g6
        have ent2 : ∀ i y, (xs ++ [huge])[i]? = some y → Ro σ1 (gP σ1 5 (mk + i)) y := fun i y hy => by
          have e6 : gP σ1 5 = gP (wP τ 5 (mk + xs.length) none) 5 := by rw [← hσ1]; rfl
          rw [e6]
          rcases Nat.lt_or_ge i xs.length with hi | hi
          · rw [List.getElem?_append_left hi] at hy
            rw [wP_ne (by omega), g4 (mk + i) (by omega)]
            exact Ro_ext (hent i y hy) (gw_ext g6)
          · rw [List.getElem?_append_right hi] at hy
            have hi2 := get_lt hy
            simp at hi2
            have : i = xs.length := by omega
            subst this
            simp at hy
            subst hy
            rw [wP_at]
            exact Ro_huge
        have hC2 : ∀ x ∈ xs ++ [huge], Can x := fun x hx => by
          rcases List.mem_append.mp hx with h | h
          · exact hxC x h
          · rw [List.mem_singleton.mp h]; exact huge_can
        rw [show d + dx = (d + dx - 43) + 43 by omega]
        refine x_together (mk := mk) (xs := xs ++ [huge]) hk (by simp) (by simp; omega) (by rw [← hσ1, wS_at, List.length_append]; rfl) ent2 bu (fun ov υ t1 t2 t3 => ?_)
        have hov : ov = none := by
          cases ov with
          | none => rfl
          | some t => exact absurd (fits_join hk hC2 (Ro_some t3).1 huge (by simp)) huge_fits
        subst hov
        have g7 : xF (3 * (e - p) + (b + 1)) σ υ := xF_mono (xF_trans g6 (gw_mono (S' := [(3, 3), (7, 3), (7, 4), (7, 5)]) (A' := []) (J' := []) (P' := [5, 6]) t1 (by simp) (by simp) (by simp) (by simp) (show 2 ≤ 2 * 1 by omega) (show 13 ≤ 13 * 1 by omega))) (by omega)
        refine o_n rfl (hQ υ g7 ?_ t2 (fun i hi => ?_))
        · rw [gw_S t1 (by omega) (by simp)]; exact e5
        · rw [gw_P t1 (by omega) (by simp), ← hσ1]
          show gP (wP τ 5 (mk + xs.length) none) 5 i = _
          rw [wP_ne (by omega)]
          exact g4 i (by omega)
    · intro σ f T d Q hMR hf hT1 hT2 hent hQ
      refine mi σ (f + xs.length) T d _ hMR hf hT1 hT2 (fun v τ g w1 w2 w3 w4 w5 => ?_)
      rw [show d + dm = (d + dm - 1) + 1 by omega]
      refine m_put w4 (by omega) ?_
      refine vX11_readProduct_13 ⟨fun _ => ⟨fun z => ?_, fun _ => ?_⟩, fun z => ?_⟩
      · exfalso
        rw [wS_ne (by omega), gS_wA, w3] at z
        exact absurd z (by decide)
      · refine hQ _ _ (g + 1) (wr_S (wr_5 w1 (Nat.zero_le _)) (by simp)) ?_ ?_ (wS_at _ _ _ _) (by omega)
        · rw [wS_ne (by omega), gS_wA]; exact w2
        · rw [wS_ne (by omega), gS_wA]; exact w3
      · exfalso
        rw [wS_ne (by omega), gS_wA, w3] at z
        exact absurd z (by decide)
  | inr R2 =>
    obtain ⟨p', y⟩ := R2
    obtain ⟨r1, r2, hyC, hyl⟩ := rf
    have hyw := Can_wf hyC
    have hyp := wf_pos hyw
    obtain ⟨q1, q2, q3⟩ := skp_ok (bs := bs) r2
    have hC2 : ∀ x ∈ xs ++ [y], Can x := fun x hx => by
      rcases List.mem_append.mp hx with h | h
      · exact hxC x h
      · rw [List.mem_singleton.mp h]; exact hyC
    have hfl2 : (xs ++ [y]).flatten.length = xs.flatten.length + y.length := by simp
    have hll2 : (xs ++ [y]).length = xs.length + 1 := by simp
    -- the class up to the symbol
    have classy : ∀ (σ : am_S) (mk d : Nat) (Q : Option Nat → am_S → Prop), XR bs σ p o (mk + xs.length) → mk + xs.length ≤ p → (∀ i y, xs[i]? = some y → Ro σ (gP σ 5 (mk + i)) y) → bud (2 * (3 * (bs.length - p) + (b + 1))) (13 * (3 * (bs.length - p) + (b + 1))) σ → (∀ τ, xF (3 * (p' - p) - (a + 1)) σ τ → stB mk σ τ → (∀ i z, (xs ++ [y])[i]? = some z → Ro τ (gP τ 5 (mk + i)) z) → (bs[skp bs p']? = some 42 → XR bs τ (skp bs p' + 1) o (mk + (xs ++ [y]).length) → am_X rn am_Lx IX6_product (d + dx + 1) 12 [some (.ref 7), some (.int (nI mk)), some (.int (1 : Int32)), some (.int (nI (xs ++ [y]).length))] [] τ Q) ∧ (bs[skp bs p']? ≠ some 42 → XR bs τ (skp bs p') o (mk + (xs ++ [y]).length) → am_X rn am_Lx IX6_product (d + dx + 1) 12 [some (.ref 7), some (.int (nI mk)), some (.int (0 : Int32)), some (.int (nI (xs ++ [y]).length))] [] τ Q)) → am_X rn am_Lx IX6_product (d + dx + 1) 12 [some (.ref 7), some (.int (nI mk)), some (.int (1 : Int32)), some (.int (nI xs.length))] [] σ Q := by
      intro σ mk d Q hXR hmk hent hbud hK
      refine vX6_product_12 ⟨fun z => absurd z (by decide), fun _ => pk_le 64 xs.length (fun h => by omega) (fun _ => ?_)⟩
      refine xi σ (mk + xs.length) d _ hXR hmk (bud_mono hbud (by omega) (by omega)) (fun ov τ g1 g2 g3 g4 => ?_)
      obtain ⟨hTx, h3, h4, h5, hmk3, hlts⟩ := g2
      have hpush := x_push (d := d + dx - 1) (σ := τ) (mk := mk + xs.length) (o := ov) (x := y) (Q := fun _ σ6 => (0 ≤ (gS σ6 7 5) → am_X rn am_Lx IX6_product (d + dx + 1) 12 [some (.ref 7), some (.int (nI mk)), some (.int (0 : Int32)), some (.int (nI xs.length + (1 : Int32)))] [] σ6 Q) ∧ (¬ 0 ≤ (gS σ6 7 5) → am_K ri am_Lx IX6_took (d + dx) [.ref 7, .int (42 : Int32)] σ6 (fun r7 σ7 => (r7 = 0 → am_X rn am_Lx IX6_product (d + dx + 1) 12 [some (.ref 7), some (.int (nI mk)), some (.int (0 : Int32)), some (.int (nI xs.length + (1 : Int32)))] [] σ7 Q) ∧ (¬ r7 = 0 → am_X rn am_Lx IX6_product (d + dx + 1) 12 [some (.ref 7), some (.int (nI mk)), some (.int (1 : Int32)), some (.int (nI xs.length + (1 : Int32)))] [] σ7 Q)))) (by omega) hmk3 g4 ?_
      · rw [show d + dx - 1 + 1 = d + dx by omega] at hpush
        exact hpush
      · generalize hσ1 : wS (wP τ 5 (mk + xs.length) ov) 3 3 (nI (mk + xs.length + 1)) = σ1
        have g5 : gw [(3, 3), (7, 3), (7, 4), (7, 5)] [] [] [5, 6] 0 0 τ σ1 := by rw [← hσ1]; exact gw_wS (gw_wP gw_rfl (by simp) (by omega)) (by simp) (by omega)
        have e5 : gS σ1 7 5 = -1 := by rw [← hσ1, wS_ne (by omega)]; exact h5
        have e3 : gS σ1 7 3 = nI p' := by rw [← hσ1, wS_ne (by omega)]; exact h3
        have e4 : gS σ1 7 4 = nI o := by rw [← hσ1, wS_ne (by omega)]; exact h4
        have e33 : gS σ1 3 3 = nI (mk + (xs ++ [y]).length) := by rw [← hσ1, wS_at, hll2]; rfl
        have g6 : xF (3 * (p' - p) - (a + 1)) σ σ1 := gw_mono (gw_trans g1 g5) (fun _ h => h) (fun _ h => h) (fun _ h => h) (fun _ h => h) (by omega) (by omega)
        have x1 : XR bs σ1 p' o (mk + (xs ++ [y]).length) := XR_gw hXR g6 e3 e4 e5 e33
        have sB : stB mk σ σ1 := fun i hi => by
          rw [← hσ1]
          show gP (wP τ 5 (mk + xs.length) ov) 5 i = _
          rw [wP_ne (by omega)]
          exact g3 i (by omega)
        have ent2 : ∀ i z, (xs ++ [y])[i]? = some z → Ro σ1 (gP σ1 5 (mk + i)) z := fun i z hz => by
          have e6 : gP σ1 5 = gP (wP τ 5 (mk + xs.length) ov) 5 := by rw [← hσ1]; rfl
          rw [e6]
          rcases Nat.lt_or_ge i xs.length with hi | hi
          · rw [List.getElem?_append_left hi] at hz
            rw [wP_ne (by omega), g3 (mk + i) (by omega)]
            exact Ro_ext (hent i z hz) (gw_ext g6)
          · rw [List.getElem?_append_right hi] at hz
            have hi2 := get_lt hz
            simp at hi2
            have : i = xs.length := by omega
            subst this
            simp at hz
            subst hz
            rw [wP_at]
            exact Ro_ext g4 (gw_ext g5)
        rw [e5]
        refine ⟨fun z => absurd z i_m1_neg, fun _ => ?_⟩
        rw [show d + dx = (d + dx - 2) + 2 by omega, nI_1, ← hll2]
        refine x_took (c := 42) hb x1.1 r2 e3 (by omega) (by omega) (fun hs τ2 k1 k2 => ⟨fun z => absurd z (by decide), fun _ => ?_⟩) (fun hs τ2 k1 k2 => ⟨fun _ => ?_, fun z => absurd rfl z⟩)
        · have f1 : xF (3 * (p' - p) - (a + 1)) σ τ2 := xF_mono (xF_trans g6 (xF_fr k1)) (by omega)
          have eP : gP τ2 5 = gP σ1 5 := k1.2.2.2.1 5 (by simp)
          rw [show d + dx - 2 + 2 = d + dx by omega]
          refine (hK τ2 f1 (fun i hi => by rw [eP]; exact sB i hi) (fun i z hz => by rw [eP]; exact Ro_ext (ent2 i z hz) (gw_ext (xF_fr k1)))).1 hs (XR_gw hXR f1 k2 ?_ ?_ ?_)
          · rw [k1.1 7 4 (by simp)]; exact e4
          · rw [k1.1 7 5 (by simp)]; exact e5
          · rw [k1.1 3 3 (by simp)]; exact e33
        · have f1 : xF (3 * (p' - p) - (a + 1)) σ τ2 := xF_mono (xF_trans g6 (xF_fr k1)) (by omega)
          have eP : gP τ2 5 = gP σ1 5 := k1.2.2.2.1 5 (by simp)
          rw [show d + dx - 2 + 2 = d + dx by omega]
          refine (hK τ2 f1 (fun i hi => by rw [eP]; exact sB i hi) (fun i z hz => by rw [eP]; exact Ro_ext (ent2 i z hz) (gw_ext (xF_fr k1)))).2 hs (XR_gw hXR f1 k2 ?_ ?_ ?_)
          · rw [k1.1 7 4 (by simp)]; exact e4
          · rw [k1.1 7 5 (by simp)]; exact e5
          · rw [k1.1 3 3 (by simp)]; exact e33
    -- the reference up to the symbol
    have refy : ∀ (σ : am_S) (f T d : Nat) (Q : Int32 → am_S → Prop), MR bs σ p o (f + xs.length) T → f + xs.length ≤ p → 17280 ≤ T → T ≤ 17280 + 132 * p → ent σ 17280 f T 64 xs → (∀ τ T', wr T f σ τ → T ≤ T' → T' + 64 * (a + 1) ≤ T + 132 * (p' - p) → MR bs τ (skp bs p') o (f + (xs ++ [y]).length) T' → ent τ 17280 f T' 64 (xs ++ [y]) → (bs[skp bs p']? = some 42 → am_K ri am_Lm IX11_readAtom (d + dm) [.ref 0] (wS τ 0 10 (nI (skp bs p' + 1))) (fun r4 σ4 => am_K ru am_Lm IX11_put (d + dm) [.ref 0, .int r4] σ4 (fun _ σ5 => am_X ri am_Lm IX11_readProduct (d + dm + 1) 13 [some (.ref 0), some (.int (nI f))] [] σ5 Q))) ∧ (bs[skp bs p']? ≠ some 42 → am_K ri am_Lm IX11_joined (d + dm) [.ref 0, .int (4 : Int32), .int (nI f)] τ Q)) → am_K ri am_Lm IX11_readAtom (d + dm) [.ref 0] σ (fun r σ1 => am_K ru am_Lm IX11_put (d + dm) [.ref 0, .int r] σ1 (fun _ σ2 => am_X ri am_Lm IX11_readProduct (d + dm + 1) 13 [some (.ref 0), some (.int (nI f))] [] σ2 Q)) := by
      intro σ f T d Q hMR hf hT1 hT2 hent hK
      refine mi σ (f + xs.length) T d _ hMR hf hT1 hT2 (fun q τ T' w1 w2 w3 w4 w5 w6 w7 => ?_)
      obtain ⟨m1, m2, m3, m4, m5, m6, m7⟩ := w2
      have hput := m_put (d := d + dm - 1) (σ := τ) (v := nI q) (Q := fun _ σ2 => am_X ri am_Lm IX11_readProduct (d + dm + 1) 13 [some (.ref 0), some (.int (nI f))] [] σ2 Q) m5 (by omega) ?_
      · rw [show d + dm - 1 + 1 = d + dm by omega] at hput
        exact hput
      · generalize hσ1 : wS (wA τ 5 (f + xs.length) (nI q)) 0 7 (nI (f + xs.length + 1)) = σ1
        have s10 : gS σ1 0 10 = nI p' := by rw [← hσ1, wS_ne (by omega), gS_wA]; exact m2
        have s11 : gS σ1 0 11 = nI o := by rw [← hσ1, wS_ne (by omega), gS_wA]; exact m3
        have s12 : gS σ1 0 12 = 0 := by rw [← hσ1, wS_ne (by omega), gS_wA]; exact m4
        have s7 : gS σ1 0 7 = nI (f + (xs ++ [y]).length) := by rw [← hσ1, wS_at, hll2]; rfl
        have s4 : gS σ1 0 4 = nI T' := by rw [← hσ1, wS_ne (by omega), gS_wA]; exact m6
        have s5 : gS σ1 0 5 = nI 0 := by rw [← hσ1, wS_ne (by omega), gS_wA]; exact m7
        have w8 : wr T f σ σ1 := by rw [← hσ1]; exact wr_S (wr_5 (wr_mono w1 (Nat.le_refl _) (by omega)) (by omega)) (by simp)
        have w9 : wr T' (f + xs.length) τ σ1 := by rw [← hσ1]; exact wr_S (wr_5 wr_rfl (Nat.le_refl _)) (by simp)
        have ent2 : ent σ1 17280 f T' 64 (xs ++ [y]) := by
          intro i z hz
          rcases Nat.lt_or_ge i xs.length with hi | hi
          · rw [List.getElem?_append_left hi] at hz
            have en := wr_ent (wr_ent hent w1 (Nat.le_refl _) (Nat.le_refl _)) w9 w3 (Nat.le_refl _)
            exact ent_T en w3 i z hz
          · rw [List.getElem?_append_right hi] at hz
            have hi2 := get_lt hz
            simp at hi2
            have : i = xs.length := by omega
            subst this
            simp at hz
            subst hz
            refine ⟨q, by rw [← hσ1, gA_wS]; exact wA_at _ _ _ _, canF_mono (by omega) (canF_len y hyC), wr_seg w9 (by omega) w5, by omega⟩
        have tm1 : Tm' bs σ1 := wr_tm hMR.1 w8
        refine vX11_readProduct_13 ⟨fun z => absurd s12 z, fun _ => ?_⟩
        rw [show d + dm = (d + dm - 1) + 1 by omega]
        refine m_next hb tm1 r2 s10 (fun τ2 k1 k2 => ?_)
        have wk2 : ∀ {lo f}, wr lo f σ1 τ2 := fun {lo f} => wr_fr10 k1
        have t12 : gS τ2 0 12 = 0 := by rw [k1.1 0 12 (by simp)]; exact s12
        have hMR2 : MR bs τ2 (skp bs p') o (f + (xs ++ [y]).length) T' := ⟨wr_tm tm1 (wk2 (lo := 0) (f := 0)), k2, by rw [k1.1 0 11 (by simp)]; exact s11, t12, by rw [k1.1 0 7 (by simp)]; exact s7, by rw [k1.1 0 4 (by simp)]; exact s4, by rw [k1.1 0 5 (by simp)]; exact s5⟩
        have hK2 := hK τ2 T' (wr_trans w8 wk2) w3 w4 hMR2 (wr_ent ent2 wk2 (Nat.le_refl _) (Nat.le_refl _))
        rw [show d + dm - 1 + 1 = d + dm by omega, k2, nI_1]
        refine ⟨fun z => ⟨fun _ => ?_, fun y => absurd t12 y⟩, fun z => hK2.1 ((chm_c hb (by omega)).mp z)⟩
        exact hK2.2 (fun e => z ((chm_c (c := 42) hb (by omega)).mpr e))
    by_cases hs : bs[skp bs p']? = some 42
    · obtain ⟨R, rR, xR, mR⟩ := ih p' (skp bs p') r1 q1 q2 hs (xs ++ [y]) p0 hC2 (by omega)
      refine ⟨R, ?_, ?_, ?_⟩
      · cases R with
        | inl e => exact ⟨by have := rR.1; omega, rR.2⟩
        | inr R3 => exact ⟨by have := rR.1; omega, rR.2⟩
      · intro σ mk d Q hXR hmk hent hbud hQ
        refine classy σ mk d Q hXR hmk hent hbud (fun τ f1 f2 f3 => ⟨fun _ f4 => ?_, fun z => absurd hs z⟩)
        refine xR τ mk d Q f4 (by omega) f3 (bud_xF (k := 3 * (p' - p) - (a + 1)) (bud_mono hbud (by omega) (by omega)) f1) ?_
        cases R with
        | inl e =>
          have := rR.1
          exact fun υ h1 h2 h3 h4 => hQ υ (xF_mono (xF_trans f1 h1) (by omega)) h2 h3 (stB_trans f2 h4)
        | inr R3 =>
          have := rR.1
          exact fun ov υ h1 h2 h3 h4 => hQ ov υ (xF_mono (xF_trans f1 h1) (by omega)) h2 (stB_trans f2 h3) h4
      · intro σ f T d Q hMR hf hT1 hT2 hent hQ
        refine refy σ f T d Q hMR hf hT1 hT2 hent (fun τ T' f1 f2 f3 f4 f5 => ⟨fun _ => ?_, fun z => absurd hs z⟩)
        have hMR3 : MR bs (wS τ 0 10 (nI (skp bs p' + 1))) (skp bs p' + 1) o (f + (xs ++ [y]).length) T' := by
          obtain ⟨m1, m2, m3, m4, m5, m6, m7⟩ := f4
          exact ⟨wr_tm m1 (wr_S (lo := 0) (f := 0) wr_rfl (by simp)), wS_at _ _ _ _, by rw [wS_ne (by omega)]; exact m3, by rw [wS_ne (by omega)]; exact m4, by rw [wS_ne (by omega)]; exact m5, by rw [wS_ne (by omega)]; exact m6, by rw [wS_ne (by omega)]; exact m7⟩
        have wS1 : ∀ {lo f}, wr lo f τ (wS τ 0 10 (nI (skp bs p' + 1))) := fun {lo f} => wr_S wr_rfl (by simp)
        refine mR _ f T' d Q hMR3 (by omega) (by omega) (by omega) (wr_ent f5 wS1 (Nat.le_refl _) (Nat.le_refl _)) ?_
        cases R with
        | inl e => exact fun v υ g h1 h2 h3 h4 h5 => hQ v υ g (wr_trans (wr_mono (wr_trans f1 wS1) hT1 (Nat.zero_le _)) h1) h2 h3 h4 h5
        | inr R3 =>
          have := rR.1
          exact fun q υ T2 h1 h2 h3 h4 h5 h6 h7 => hQ q υ T2 (wr_trans (wr_trans f1 wS1) (wr_mono h1 f2 (Nat.le_refl _))) h2 (by omega) (by omega) h5 h6 h7
    · -- here it ends
      have hCj := Can_join hk hC2 (by simp)
      have hjl : (joinT 4 (xs ++ [y])).length + p0 ≤ skp bs p' := by
        rcases Nat.eq_zero_or_pos xs.length with h0 | h0
        · have e0 : xs = [] := List.length_eq_zero_iff.mp h0
          subst e0
          rw [List.nil_append, joinT_one hk hyC]
          omega
        · have := join_len hk hC2 (by omega)
          omega
      refine ⟨.inr (skp bs p', joinT 4 (xs ++ [y])), ⟨by omega, q2, hCj, hjl⟩, ?_, ?_⟩
      · intro σ mk d Q hXR hmk hent hbud hQ
        refine classy σ mk d Q hXR hmk hent hbud (fun τ f1 f2 f3 => ⟨fun z => absurd z hs, fun _ f4 => ?_⟩)
        refine vX6_product_12 ⟨fun _ => ?_, fun z => absurd rfl z⟩
        rw [show d + dx = (d + dx - 43) + 43 by omega]
        refine x_together (mk := mk) (xs := xs ++ [y]) hk (by simp) (by omega) f4.2.2.2.2.1 f3 (bud_xF (k := 3 * (p' - p) - (a + 1)) (l := 1) (bud_mono hbud (by omega) (by omega)) f1) (fun ov υ t1 t2 t3 => ?_)
        have t4 : xF 1 τ υ := gw_mono t1 (by simp) (by simp) (by simp) (by simp) (by omega) (by omega)
        have t5 : xF (3 * (skp bs p' - p) - a) σ υ := xF_mono (xF_trans f1 t4) (by omega)
        have := hQ ov υ t5 (XR_gw hXR t5 (by rw [gw_S t1 (by omega) (by simp)]; exact f4.2.1) (by rw [gw_S t1 (by omega) (by simp)]; exact f4.2.2.1) (by rw [gw_S t1 (by omega) (by simp)]; exact f4.2.2.2.1) t2) (fun i hi => by rw [gw_P t1 (by omega) (by simp)]; exact f2 i hi) t3
        exact ⟨fun z => (by subst z; exact this), fun u z => (by subst z; exact this)⟩
      · intro σ f T d Q hMR hf hT1 hT2 hent hQ
        refine refy σ f T d Q hMR hf hT1 hT2 hent (fun τ T' f1 f2 f3 f4 f5 => ⟨fun z => absurd z hs, fun _ => ?_⟩)
        obtain ⟨m1, m2, m3, m4, m5, m6, m7⟩ := f4
        have hfk := (flK_le (k := 4) fun x hx => Can_wf (hC2 x hx)).1
        rw [show d + dm = (d + dm - 67) + 64 + 3 by omega]
        refine m_joined (k := 4) (lo := 17280) (T := T') (b := 0) hk (by simp) f5 (by omega) m5 m6 (by omega) (by omega) m7 (by omega) (fun v υ j1 j2 j3 => ?_)
        have hj64 : (joinT 4 (xs ++ [y])).length ≤ 64 := by omega
        rcases j3 with ⟨_, j4, T2, q, j5, j6, j7, j8, rfl, j9, j10⟩ | ⟨j4, _⟩
        · refine hQ q υ T2 (wr_trans f1 (wr_mono (wr_wk j1) f2 (Nat.le_refl _))) ⟨wr_tm m1 (wr_wk j1), by rw [j1.1 0 10 (by simp)]; exact m2, by rw [j1.1 0 11 (by simp)]; exact m3, by rw [j1.1 0 12 (by simp)]; exact m4, j2, j5, j4⟩ (by omega) ?_ j9 (by omega) (by omega)
          omega
        · omega
theorem jlP (hb : tok bs) (ha : a ≤ 1) (hb5 : b ≤ 5) (hkk : kk ≤ 100) (ho : o ≤ 8) (hdx : 43 ≤ dx) (hdm : 67 ≤ dm) (item : ∀ p, p ≤ bs.length → jnt IX6_atom IX11_readAtom dx dm (a + 1) b kk bs o p) : ∀ (m p : Nat), bs.length - p ≤ m → p ≤ bs.length → ∀ (xs : List Tm) (p0 : Nat), (∀ x ∈ xs, Can x) → xs.flatten.length + xs.length + p0 ≤ p → ∃ R : PR, (match R with
    | .inl e => p ≤ e ∧ e ≤ bs.length ∧ skp bs e = e
    | .inr (p', x) => p < p' ∧ p' ≤ bs.length ∧ Can x ∧ x.length + p0 ≤ p') ∧ (∀ (σ : am_S) (mk d : Nat) (Q : Option Nat → am_S → Prop), XR bs σ p o (mk + xs.length) → mk + xs.length ≤ p → (∀ i y, xs[i]? = some y → Ro σ (gP σ 5 (mk + i)) y) → bud (2 * (3 * (bs.length - p) + (b + 1))) (13 * (3 * (bs.length - p) + (b + 1))) σ → xPost bs a (b + 1) o p mk σ Q R → am_X rn am_Lx IX6_product (d + dx + 1) 12 [some (.ref 7), some (.int (nI mk)), some (.int (1 : Int32)), some (.int (nI xs.length))] [] σ Q) ∧ (∀ (σ : am_S) (f T d : Nat) (Q : Int32 → am_S → Prop), MR bs σ p o (f + xs.length) T → f + xs.length ≤ p → 17280 ≤ T → T ≤ 17280 + 132 * p → ent σ 17280 f T 64 xs → mPost bs a (kk + 1) o p f T σ Q R → am_K ri am_Lm IX11_readAtom (d + dm) [.ref 0] σ (fun r σ1 => am_K ru am_Lm IX11_put (d + dm) [.ref 0, .int r] σ1 (fun _ σ2 => am_X ri am_Lm IX11_readProduct (d + dm + 1) 13 [some (.ref 0), some (.int (nI f))] [] σ2 Q))) := by
  intro m
  induction m with
  | zero =>
    intro p hm hp
    exact jlzP hb ha hb5 hkk ho hdx hdm item p hp (fun p' q _ h1 h2 h3 => absurd (get_lt h3) (by omega))
  | succ m ih =>
    intro p hm hp
    exact jlzP hb ha hb5 hkk ho hdx hdm item p hp (fun p' q h0 h1 h2 h3 xs p0 g1 g2 => ih (q + 1) (by omega) (by have := get_lt h3; omega) xs p0 g1 g2)
theorem jtP (hb : tok bs) (ha : a ≤ 1) (hb5 : b ≤ 5) (hkk : kk ≤ 100) (ho : o ≤ 8) (hdx : 43 ≤ dx) (hdm : 67 ≤ dm) (item : ∀ p, p ≤ bs.length → jnt IX6_atom IX11_readAtom dx dm (a + 1) b kk bs o p) (p : Nat) (hp : p ≤ bs.length) : jnt IX6_product IX11_readProduct (dx + 1) (dm + 1) a (b + 1) (kk + 1) bs o p := by
  obtain ⟨R, rR, xR, mR⟩ := jlP hb ha hb5 hkk ho hdx hdm item (bs.length - p) p (Nat.le_refl _) hp [] p (by simp) (by simp)
  refine ⟨R, ?_, ?_, ?_⟩
  · cases R with
    | inl e => exact rR
    | inr R3 => exact rR
  · intro σ mk d Q hXR hmk hbud hQ
    refine vX6_product ?_
    show am_K ri am_Lx IX2_mark (d + dx) [.ref 3] σ _
    rw [show d + dx = (d + dx - 1) + 1 by have := hdx; omega]
    refine vX2_mark ?_
    rw [hXR.2.2.2.2.1]
    exact xR σ mk d Q hXR hmk (fun i y hy => by simp at hy) hbud hQ
  · intro σ f T d Q hMR hf hT1 hT2 hQ
    refine vX11_readProduct ?_
    rw [hMR.2.2.2.2.1]
    exact mR σ f T d Q hMR hf hT1 hT2 (fun i y hy => by simp at hy) hQ
end RDP
