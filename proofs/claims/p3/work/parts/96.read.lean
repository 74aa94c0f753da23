/-! ===== read, both sides ===== -/
section RD
variable {bs : List Nat} {V : Sv}
theorem jall (hb : tok bs) : ∀ m o, o + m = 8 → ∀ p, p ≤ bs.length → jnt IX6_sum IX11_readTerm (60 + 4 * m) (80 + 4 * m) 0 2 (3 + 3 * m) bs o p
  | 0, o, h => by
    have a1 := fun p hp => jA (o := o) (dx := 56) (dm := 76) (kk := 0) hb (by omega) (by omega) (by omega) (by omega) (fun z => (by omega : False).elim) p hp
    have a2 := fun p hp => jtP (a := 1) (b := 0) (kk := 1) (o := o) (dx := 58) (dm := 78) hb (by omega) (by omega) (by omega) (by omega) (by omega) (by omega) a1 p hp
    have a3 := fun p hp => jtS (a := 0) (b := 1) (kk := 2) (o := o) (dx := 59) (dm := 79) hb (by omega) (by omega) (by omega) (by omega) (by omega) (by omega) a2 p hp
    exact a3
  | m + 1, o, h => by
    have a0 := jall hb m (o + 1) (by omega)
    have a1 := fun p hp => jA (o := o) (dx := 60 + 4 * m) (dm := 80 + 4 * m) (kk := 3 + 3 * m) hb (by omega) (by omega) (by omega) (by omega) (fun _ => a0) p hp
    have a2 := fun p hp => jtP (a := 1) (b := 0) (kk := 3 + 3 * m + 1) (o := o) (dx := 60 + 4 * m + 2) (dm := 80 + 4 * m + 2) hb (by omega) (by omega) (by omega) (by omega) (by omega) (by omega) a1 p hp
    have a3 := fun p hp => jtS (a := 0) (b := 1) (kk := 3 + 3 * m + 1 + 1) (o := o) (dx := 60 + 4 * m + 2 + 1) (dm := 80 + 4 * m + 2 + 1) hb (by omega) (by omega) (by omega) (by omega) (by omega) (by omega) a2 p hp
    exact a3
/-- frame of the reference's read -/
def mRd (σ τ : am_S) : Prop := (∀ n k, (n, k) ∉ [(0, 4), (0, 5), (0, 7), (0, 9), (0, 10), (0, 11), (0, 12)] → gS τ n k = gS σ n k) ∧ (∀ n, n ∉ [1, 2, 3, 4, 5, 7] → gA τ n = gA σ n) ∧ (∀ n, 1 ≤ n → n ≤ 4 → ∀ i, 640 ≤ i → i < 17280 → gA τ n i = gA σ n i) ∧ τ.2 = σ.2
theorem mRd_wr {lo f : Nat} {σ τ : am_S} (h : wr lo f σ τ) (hl : 17280 ≤ lo) : mRd σ τ := ⟨fun n k z => h.1 n k (fun y => z (by simp at y ⊢; omega)), fun n hn => h.2.1 n (fun z => hn (by simp at z ⊢; omega)), fun n a b i _ hi => h.2.2.1 n a b i (by omega), h.2.2.2.2.2.2.2⟩
theorem mRd_trans {σ τ υ : am_S} (h : mRd σ τ) (g : mRd τ υ) : mRd σ υ := ⟨fun n k z => (g.1 n k z).trans (h.1 n k z), fun n z => (g.2.1 n z).trans (h.2.1 n z), fun n a b i z w => (g.2.2.1 n a b i z w).trans (h.2.2.1 n a b i z w), g.2.2.2.trans h.2.2.2⟩
theorem mRd_mW {σ τ : am_S} (h : mW σ τ) : mRd σ τ := ⟨fun n k z => h.1 n k (fun y => z (by simp at y ⊢; omega)), h.2⟩
theorem mRd_9 {σ : am_S} {v : Int32} : mRd σ (wS σ 0 9 v) := ⟨fun n k z => wS_ne (fun e => z (by rw [e.1, e.2]; simp)), fun _ _ => rfl, fun _ _ _ _ _ _ => rfl, rfl⟩
theorem Sm_wr {lo f : Nat} {σ τ : am_S} (h : Sm σ V) (g : wr lo f σ τ) (hl : 640 ≤ lo) : Sm τ V := by
  intro s hs
  have e7 : gA τ 7 = gA σ 7 := g.2.1 7 (by simp)
  rcases h s hs with ⟨v1, v2⟩ | ⟨x, v1, v2, hc, hf, hr⟩
  · exact Or.inl ⟨v1, by rw [e7]; exact v2⟩
  · have := hf.1
    exact Or.inr ⟨x, v1, by rw [e7]; exact v2, hc, hf, wr_seg g (by omega) hr⟩
theorem Sm_A {σ τ : am_S} (h : Sm σ V) (g : gA τ = gA σ) : Sm τ V := by
  intro s hs
  rcases h s hs with ⟨v1, v2⟩ | ⟨x, v1, v2, hc, hf, hr⟩
  · exact Or.inl ⟨v1, by rw [g]; exact v2⟩
  · exact Or.inr ⟨x, v1, by rw [g]; exact v2, hc, hf, seg_A g hr⟩
abbrev rF (σ τ : am_S) : Prop := gw [(3, 3), (7, 2), (7, 3), (7, 4), (7, 5)] [] [] [1, 5, 6] 388 2522 σ τ
/-- what read answers and what the slots hold behind it: fault, full, or a term -/
def rdV (bs : List Nat) (V : Sv) (s : Nat) (r : Int32) (V' : Sv) : Prop := (V' = V ∧ (r = -4 ∨ ∃ e, e ≤ bs.length ∧ r = -10 - nI e)) ∨ ∃ x, Can x ∧ fits x ∧ r = nI x.length ∧ V' = uV V s x
theorem j_read (hb : tok bs) {k : Nat} (hk : k < 16) : ∃ (r : Int32) (V' : Sv), (∀ (σ : am_S) (d : Nat) (Q : Int32 → am_S → Prop), Tx bs σ → gS σ 3 3 = nI 0 → lts σ → Sx σ V → bud 388 2522 σ → (∀ τ, rF σ τ → gS τ 3 3 = nI 0 → gS τ 7 2 = nI 0 → Sx τ V' → Q r τ) → am_K ri am_Lx IX10_read (d + 94) [.ref 0, .int (nI k)] σ Q) ∧ (∀ (σ : am_S) (d : Nat) (Q : Int32 → am_S → Prop), Tm' bs σ → Sm σ V → (∀ τ, mRd σ τ → gS τ 0 9 = nI 0 → Sm τ V' → Q r τ) → am_K ri am_Lm IX11_read (d + 113) [.ref 0, .int (nI k)] σ Q) := by
  have h64 := hb.1
  have hsl := nI_sl hk
  obtain ⟨R, rR, xR, mR⟩ := jall hb 8 0 (by omega) 0 (by omega)
  -- the class, up to kept
  have xgo : ∀ (σ : am_S) (d : Nat) (Q : Int32 → am_S → Prop), Tx bs σ → gS σ 3 3 = nI 0 → lts σ → Sx σ V → bud 388 2522 σ → (match R with
      | .inl e => ∀ τ, rF σ τ → gS τ 3 3 = nI 0 → gS τ 7 2 = nI 0 → Sx τ V → Q (-10 - nI e) τ
      | .inr (p', x) => (bs[skp bs p']? = none → ∀ τ, rF σ τ → gS τ 3 3 = nI 0 → gS τ 7 2 = nI 0 → (fits x → Sx τ (uV V k x) → Q (nI x.length) τ) ∧ (¬ fits x → Sx τ V → Q (-4) τ)) ∧ (bs[skp bs p']? ≠ none → ∀ τ, rF σ τ → gS τ 3 3 = nI 0 → gS τ 7 2 = nI 0 → Sx τ V → Q (-10 - nI (skp bs p')) τ)) → am_K ri am_Lx IX10_read (d + 94) [.ref 0, .int (nI k)] σ Q := by
    intro σ d Q hT h3 hl hV hbud hQ
    refine vX10_read (xs_slot (d := d + 92) (fun k' hk' e => ⟨fun _ => ?_, fun z => absurd z (by decide)⟩) (fun h => absurd hsl h))
    refine vX6_parsed ?_
    generalize hσ0 : wS (wS (wS σ 7 3 (0 : Int32)) 7 4 (0 : Int32)) 7 5 (-1 : Int32) = σ0
    have g0 : xF 0 σ σ0 := by rw [← hσ0]; exact gw_wS (gw_wS (gw_wS gw_rfl (by simp) (by omega)) (by simp) (by omega)) (by simp) (by omega)
    have c73 : gS σ0 7 3 = nI 0 := by rw [← hσ0, wS_ne (by omega), wS_ne (by omega), wS_at]; rfl
    have c74 : gS σ0 7 4 = nI 0 := by rw [← hσ0, wS_ne (by omega), wS_at]; rfl
    have c75 : gS σ0 7 5 = -1 := by rw [← hσ0, wS_at]
    have c33 : gS σ0 3 3 = nI 0 := by rw [← hσ0, wS_ne (by omega), wS_ne (by omega), wS_ne (by omega)]; exact h3
    have X0 : XR bs σ0 0 0 0 := ⟨⟨by rw [gw_S g0 (by omega) (by simp)]; exact hT.1, fun i b hb => by rw [gw_A g0 (by simp)]; exact hT.2 i b hb⟩, c73, c74, c75, c33, lts_gw hl g0 (by simp)⟩
    have bu : bud (2 * (3 * (bs.length - 0) + 2)) (13 * (3 * (bs.length - 0) + 2)) σ0 := bud_xF (k := 0) (bud_mono hbud (by omega) (by omega)) g0
    have toR : ∀ {k : Nat} {τ : am_S}, k ≤ 194 → xF k σ τ → rF σ τ := fun {k τ} h1 h => gw_mono h (by simp) (by simp) (by simp) (by simp) (by omega) (by omega)
    rw [show d + 92 = d + (60 + 4 * 8) by omega]
    refine xR σ0 0 d _ X0 (Nat.le_refl _) bu ?_
    -- a fault told
    have flt : ∀ (e : Nat) (ov : Option Nat) (τ : am_S), e ≤ 64 → rF σ τ → gS τ 7 5 = nI e → Q (-10 - nI e) τ → ((ov = none → ((gS τ 7 5) < 0 → am_K ri am_Lx IX10_kept (d + 93) [.ref 0, .int (nI k), .null] τ (fun r3 σ3 => Q r3 σ3)) ∧ (¬ (gS τ 7 5) < 0 → Q ((-10 : Int32) - (gS τ 7 5)) τ)) ∧ (∀ t4, ov = some t4 → ((gS τ 7 5) < 0 → am_K ri am_Lx IX10_kept (d + 93) [.ref 0, .int (nI k), .ref t4] τ (fun r5 σ5 => Q r5 σ5)) ∧ (¬ (gS τ 7 5) < 0 → Q ((-10 : Int32) - (gS τ 7 5)) τ))) := by
      intro e ov τ he _ h5 hq
      rw [h5]
      exact ⟨fun _ => ⟨fun z => absurd z (nI_pos (by omega)), fun _ => hq⟩, fun _ _ => ⟨fun z => absurd z (nI_pos (by omega)), fun _ => hq⟩⟩
    have VV : ∀ {τ : am_S}, rF σ τ → gP τ 1 = gP σ 1 → Sx τ V := fun {τ} h h1 => Sx_ext hV (gw_ext h) h1
    cases R with
    | inl e =>
      have hre := rR.2
      intro τ g1 g2 g3 g4
      have g5 := xF_trans g0 g1
      have e5 : gS τ 7 5 = nI e := g2
      refine o_n rfl ?_
      rw [e5]
      refine ⟨fun _ => ?_, fun z => absurd (nI_pos' (by omega)) z⟩
      have g6 : rF σ (wS τ 7 2 (0 : Int32)) := gw_wS (toR (by omega) g5) (by simp) (by omega)
      refine flt e none _ (by omega) g6 (by rw [wS_ne (by omega)]; exact e5) (hQ _ g6 (by rw [wS_ne (by omega)]; exact g3) (wS_at _ _ _ _) (VV g6 ?_))
      show gP τ 1 = gP σ 1
      rw [gw_P g5 (by omega) (by simp)]
    | inr R3 =>
      obtain ⟨p', x⟩ := R3
      obtain ⟨rR1, rR2, rR3, rR4⟩ := rR
      obtain ⟨s1, s2, s3⟩ := skp_ok (bs := bs) rR2
      intro ov τ g1 g2 g3 g4
      have g5 := xF_trans g0 g1
      have e5 : gS τ 7 5 = -1 := g2.2.2.2.1
      have main : am_K ri am_Lx IX6_next (d + (60 + 4 * 8)) [.ref 7] τ (fun r2 σ2 => (r2 = 0 → ((ov = none → ((gS (wS σ2 7 2 (0 : Int32)) 7 5) < 0 → am_K ri am_Lx IX10_kept (d + 93) [.ref 0, .int (nI k), .null] (wS σ2 7 2 (0 : Int32)) (fun r3 σ3 => Q r3 σ3)) ∧ (¬ (gS (wS σ2 7 2 (0 : Int32)) 7 5) < 0 → Q ((-10 : Int32) - (gS (wS σ2 7 2 (0 : Int32)) 7 5)) (wS σ2 7 2 (0 : Int32)))) ∧ (∀ t4, ov = some t4 → ((gS (wS σ2 7 2 (0 : Int32)) 7 5) < 0 → am_K ri am_Lx IX10_kept (d + 93) [.ref 0, .int (nI k), .ref t4] (wS σ2 7 2 (0 : Int32)) (fun r5 σ5 => Q r5 σ5)) ∧ (¬ (gS (wS σ2 7 2 (0 : Int32)) 7 5) < 0 → Q ((-10 : Int32) - (gS (wS σ2 7 2 (0 : Int32)) 7 5)) (wS σ2 7 2 (0 : Int32)))))) ∧ (¬ r2 = 0 → ((ov = none → ((gS (wS (wS σ2 7 5 (gS σ2 7 3)) 7 2 (0 : Int32)) 7 5) < 0 → am_K ri am_Lx IX10_kept (d + 93) [.ref 0, .int (nI k), .null] (wS (wS σ2 7 5 (gS σ2 7 3)) 7 2 (0 : Int32)) (fun r3 σ3 => Q r3 σ3)) ∧ (¬ (gS (wS (wS σ2 7 5 (gS σ2 7 3)) 7 2 (0 : Int32)) 7 5) < 0 → Q ((-10 : Int32) - (gS (wS (wS σ2 7 5 (gS σ2 7 3)) 7 2 (0 : Int32)) 7 5)) (wS (wS σ2 7 5 (gS σ2 7 3)) 7 2 (0 : Int32)))) ∧ (∀ t4, ov = some t4 → ((gS (wS (wS σ2 7 5 (gS σ2 7 3)) 7 2 (0 : Int32)) 7 5) < 0 → am_K ri am_Lx IX10_kept (d + 93) [.ref 0, .int (nI k), .ref t4] (wS (wS σ2 7 5 (gS σ2 7 3)) 7 2 (0 : Int32)) (fun r5 σ5 => Q r5 σ5)) ∧ (¬ (gS (wS (wS σ2 7 5 (gS σ2 7 3)) 7 2 (0 : Int32)) 7 5) < 0 → Q ((-10 : Int32) - (gS (wS (wS σ2 7 5 (gS σ2 7 3)) 7 2 (0 : Int32)) 7 5)) (wS (wS σ2 7 5 (gS σ2 7 3)) 7 2 (0 : Int32))))))) := by
        rw [show d + (60 + 4 * 8) = (d + 91) + 1 by omega]
        refine x_next hb g2.1 rR2 g2.2.1 (fun υ k1 k2 => ?_)
        have g6 : xF (0 + (3 * (p' - 0) - 0)) σ υ := xF_mono (xF_trans g5 (xF_fr k1)) (by omega)
        have u5 : gS υ 7 5 = -1 := by rw [k1.1 7 5 (by simp)]; exact e5
        have u3 : gS υ 3 3 = nI 0 := by rw [k1.1 3 3 (by simp)]; exact g2.2.2.2.2.1
        have uP : gP υ 1 = gP σ 1 := by rw [gw_P g6 (by omega) (by simp)]
        refine ⟨fun z => ?_, fun z => ?_⟩
        · have hn : bs[skp bs p']? = none := by
            unfold chx at z
            cases h : bs[skp bs p']? with
            | none => rfl
            | some b =>
              rw [h] at z
              have := hb.2 b (get_mem h)
              have z2 := (nI_eq (a := b) (b := 0) (by omega) (by omega)).mp z
              omega
          have g7 : rF σ (wS υ 7 2 (0 : Int32)) := gw_wS (toR (by omega) g6) (by simp) (by omega)
          have hV2 : Sx (wS υ 7 2 (0 : Int32)) V := VV g7 uP
          have hr2 : Ro (wS υ 7 2 (0 : Int32)) ov x := Ro_ext g4 (ext_trans (gw_ext (xF_fr k1)) (gw_ext (gw_wS (S := [(7, 2)]) (A := []) (J := []) (P := []) (c := 0) (s := 0) gw_rfl (by simp) (by omega))))
          have e55 : gS (wS υ 7 2 (0 : Int32)) 7 5 = -1 := by rw [wS_ne (by omega)]; exact u5
          rw [e55]
          have hk2 := x_kept (d := d + 92) hk hr2 hV2 (Q := Q) (fun hf ω w1 w2 => (hQ.1 hn ω (gw_mono (gw_trans g7 (gw_mono (S' := [(3, 3), (7, 2), (7, 3), (7, 4), (7, 5)]) (A' := []) (J' := []) (P' := [1, 5, 6]) w1 (by simp) (by simp) (by simp) (by simp) (Nat.le_refl _) (Nat.le_refl _))) (fun _ h => h) (fun _ h => h) (fun _ h => h) (fun _ h => h) (by omega) (by omega)) (by rw [gw_S w1 (by omega) (by simp), wS_ne (by omega)]; exact u3) (by rw [gw_S w1 (by omega) (by simp), wS_at]; rfl)).1 hf w2) (fun hf => (hQ.1 hn _ g7 (by rw [wS_ne (by omega)]; exact u3) (wS_at _ _ _ _)).2 hf hV2)
          have mneg : (-1 : Int32) < 0 := by decide
          exact ⟨fun z => ⟨fun _ => hk2.1 z, fun y => absurd mneg y⟩, fun t z => ⟨fun _ => hk2.2 t z, fun y => absurd mneg y⟩⟩
        · have hn : bs[skp bs p']? ≠ none := by
            intro h
            unfold chx at z
            rw [h] at z
            exact z rfl
          have g7 : rF σ (wS (wS υ 7 5 (gS υ 7 3)) 7 2 (0 : Int32)) := gw_wS (gw_wS (toR (by omega) g6) (by simp) (by omega)) (by simp) (by omega)
          refine flt (skp bs p') ov _ (by omega) g7 (by rw [wS_ne (by omega), wS_at]; exact k2) (hQ.2 hn _ g7 ?_ (wS_at _ _ _ _) (VV g7 uP))
          rw [wS_ne (by omega), wS_ne (by omega)]
          exact u3
      rw [e5]
      have neg : ¬ (0 : Int32) ≤ -1 := by decide
      constructor
      · intro z
        refine ⟨fun y => absurd y neg, fun _ => ?_⟩
        subst z
        exact K_mono main (fun r2 σ2 q => ⟨fun y => (q.1 y), fun y => (q.2 y)⟩)
      · intro t z
        refine ⟨fun y => absurd y neg, fun _ => ?_⟩
        subst z
        exact K_mono main (fun r2 σ2 q => ⟨fun y => (q.1 y), fun y => (q.2 y)⟩)
  -- the reference
  have mgo : ∀ (σ : am_S) (d : Nat) (Q : Int32 → am_S → Prop), Tm' bs σ → Sm σ V → (match R with
      | .inl e => ∀ τ, mRd σ τ → gS τ 0 9 = nI 0 → Sm τ V → Q (-10 - nI e) τ
      | .inr (p', x) => (bs[skp bs p']? = none → (fits x → ∀ τ, mRd σ τ → gS τ 0 9 = nI 0 → Sm τ (uV V k x) → Q (nI x.length) τ) ∧ (¬ fits x → ∀ τ, mRd σ τ → gS τ 0 9 = nI 0 → Sm τ V → Q (-4) τ)) ∧ (bs[skp bs p']? ≠ none → ∀ τ, mRd σ τ → gS τ 0 9 = nI 0 → Sm τ V → Q (-10 - nI (skp bs p')) τ)) → am_K ri am_Lm IX11_read (d + 113) [.ref 0, .int (nI k)] σ Q := by
    intro σ d Q hT hV hQ
    refine vX11_read (ms_slot (d := d + 110) (fun k' hk' e => ⟨fun _ => ?_, fun z => absurd z (by decide)⟩) (fun h => absurd hsl h))
    refine vX11_begin ⟨Or.inl rfl, Or.inl rfl, ?_⟩
    generalize hσ0 : wS (wS (wS (wS (wS (wS σ 0 4 (17280 : Int32)) 0 5 (0 : Int32)) 0 7 (0 : Int32)) 0 10 (0 : Int32)) 0 11 (0 : Int32)) 0 12 (0 : Int32) = σ0
    have g0 : wr 17280 0 σ σ0 := by rw [← hσ0]; exact wr_S (wr_S (wr_S (wr_S (wr_S (wr_S wr_rfl (by simp)) (by simp)) (by simp)) (by simp)) (by simp)) (by simp)
    have M0 : MR bs σ0 0 0 0 17280 := by
      refine ⟨wr_tm hT g0, ?_, ?_, ?_, ?_, ?_, ?_⟩
      · rw [← hσ0, wS_ne (by omega), wS_ne (by omega), wS_at]; rfl
      · rw [← hσ0, wS_ne (by omega), wS_at]; rfl
      · rw [← hσ0, wS_at]
      · rw [← hσ0, wS_ne (by omega), wS_ne (by omega), wS_ne (by omega), wS_at]; rfl
      · rw [← hσ0, wS_ne (by omega), wS_ne (by omega), wS_ne (by omega), wS_ne (by omega), wS_ne (by omega), wS_at]; rfl
      · rw [← hσ0, wS_ne (by omega), wS_ne (by omega), wS_ne (by omega), wS_ne (by omega), wS_at]; rfl
    -- a fault
    have flt : ∀ (e : Nat) (l2 : Int32) (τ : am_S), e ≤ bs.length → skp bs e = e → wr 17280 0 σ τ → gS τ 0 10 = nI e → gS τ 0 12 = 1 → (∀ τ, mRd σ τ → gS τ 0 9 = nI 0 → Sm τ V → Q (-10 - nI e) τ) → am_X ri am_Lm IX11_read (d + 113) 53 [some (.ref 0), some (.int (nI k)), some (.int l2), none] [] τ Q := by
      intro e l2 τ he hs g1 g2 g3 hq
      have hT2 := wr_tm hT g1
      refine vX11_read_53 ⟨fun z => ?_, fun _ => m_next (d := d + 111) hb hT2 he g2 (fun υ k1 k2 => ?_)⟩
      · rw [g3] at z
        exact absurd z (by decide)
      · rw [hs] at k2
        have u12 : gS υ 0 12 = 1 := by rw [k1.1 0 12 (by simp)]; exact g3
        have u9 : gS υ 0 9 = nI bs.length := by rw [k1.1 0 9 (by simp)]; exact hT2.1
        have g4 : wr 17280 0 σ υ := wr_trans g1 (wr_fr10 k1)
        have fin := hq (wS υ 0 9 (0 : Int32)) (mRd_trans (mRd_wr g4 (Nat.le_refl _)) mRd_9) (wS_at _ _ _ _) (Sm_A (Sm_wr hV g4 (by omega)) rfl)
        rw [hs, u12, u9, k2]
        refine ⟨fun z => ⟨fun y => absurd y (by decide), fun _ => fin⟩, fun z => ⟨fun y => absurd y (by decide), fun _ => ?_⟩⟩
        have hne : bs[e]? = none := by
          unfold chm at z
          cases h : bs[e]? with
          | none => rfl
          | some b =>
            rw [h] at z
            have := hb.2 b (get_mem h)
            have z2 := congrArg Int32.toInt z
            rw [l_m1, nI_toInt (by omega)] at z2
            omega
        have : e = bs.length := by
          have := List.getElem?_eq_none_iff.mp hne
          omega
        rw [← this]
        exact fin
    rw [show d + 112 = d + (80 + 4 * 8) by omega]
    refine mR σ0 0 17280 d _ M0 (Nat.le_refl _) (Nat.le_refl _) (by omega) ?_
    cases R with
    | inl e =>
      intro v τ g w1 w2 w3 w4 w5
      refine ⟨fun _ => flt e v τ rR.2.1 rR.2.2 (wr_trans g0 w1) w2 w3 hQ, fun z => ?_⟩
      rw [w3] at z
      exact absurd z (by decide)
    | inr R3 =>
      obtain ⟨p', x⟩ := R3
      obtain ⟨rR1, rR2, rR3, rR4⟩ := rR
      obtain ⟨s1, s2, s3⟩ := skp_ok (bs := bs) rR2
      intro q τ T' w1 w2 w3 w4 w5 w6 w7
      obtain ⟨m1, m2, m3, m4, m5, m6, m7⟩ := w2
      refine ⟨fun z => absurd m4 z, fun _ => ?_⟩
      rw [show d + (80 + 4 * 8) = (d + 111) + 1 by omega]
      refine m_next hb m1 rR2 m2 (fun υ k1 k2 => ?_)
      have g4 : wr 17280 0 σ υ := wr_trans (wr_trans g0 w1) (wr_fr10 k1)
      have u12 : gS υ 0 12 = 0 := by rw [k1.1 0 12 (by simp)]; exact m4
      refine ⟨fun z => ?_, fun z => ⟨Or.inr rfl, ?_⟩⟩
      · have hn : bs[skp bs p']? = none := by
          unfold chm at z
          cases h : bs[skp bs p']? with
          | none => rfl
          | some b =>
            rw [h] at z
            have := hb.2 b (get_mem h)
            have z2 := congrArg Int32.toInt z
            rw [l_m1, nI_toInt (by omega)] at z2
            omega
        refine vX11_read_53 ⟨fun _ => ⟨fun _ => ?_, fun y => absurd u12 y⟩, fun y => absurd u12 y⟩
        have g5 : mRd σ (wS υ 0 9 (0 : Int32)) := mRd_trans (mRd_wr g4 (Nat.le_refl _)) mRd_9
        have sx : seg (wS υ 0 9 (0 : Int32)) q x := seg_A (σ := υ) rfl (wr_seg (wr_fr10 (lo := T') (f := 0) k1) w7 w5)
        have hV2 : Sm (wS υ 0 9 (0 : Int32)) V := Sm_A (Sm_wr hV g4 (by omega)) rfl
        refine m_store (d := d + 110) (b := 0) hk (Can_wf rR3) (by rw [wS_ne (by omega), k1.1 0 5 (by simp)]; exact m7) (by omega) (fun _ => ⟨q, rfl, by omega, by omega, sx⟩) (fun _ hf ω hst => ?_) (fun hf => ?_)
        · refine (hQ.1 hn).1 hf ω (mRd_trans g5 (mRd_mW (mW_sto hst hk hf.1))) ?_ (Sm_sto hV2 hst rR3 hf)
          rw [hst.1]
          exact wS_at _ _ _ _
        · exact (hQ.1 hn).2 (hf rfl) _ g5 (wS_at _ _ _ _) hV2
      · have hn : bs[skp bs p']? ≠ none := by
          intro h
          unfold chm at z
          rw [h] at z
          exact z rfl
        refine flt (skp bs p') _ _ s2 (skp_skp rR2) (wr_S g4 (by simp)) (by rw [wS_ne (by omega)]; exact k2) (wS_at _ _ _ _) (hQ.2 hn)
  cases R with
  | inl e => exact ⟨-10 - nI e, V, fun σ d Q h1 h2 h3 h4 h5 h6 => xgo σ d Q h1 h2 h3 h4 h5 h6, fun σ d Q h1 h2 h3 => mgo σ d Q h1 h2 h3⟩
  | inr R3 =>
    obtain ⟨p', x⟩ := R3
    by_cases hn : bs[skp bs p']? = none
    · by_cases hf : fits x
      · exact ⟨nI x.length, uV V k x, fun σ d Q h1 h2 h3 h4 h5 h6 => xgo σ d Q h1 h2 h3 h4 h5 ⟨fun _ τ g1 g2 g3 => ⟨fun _ g4 => h6 τ g1 g2 g3 g4, fun z => absurd hf z⟩, fun z => absurd hn z⟩, fun σ d Q h1 h2 h3 => mgo σ d Q h1 h2 ⟨fun _ => ⟨fun _ => h3, fun z => absurd hf z⟩, fun z => absurd hn z⟩⟩
      · exact ⟨-4, V, fun σ d Q h1 h2 h3 h4 h5 h6 => xgo σ d Q h1 h2 h3 h4 h5 ⟨fun _ τ g1 g2 g3 => ⟨fun z => absurd z hf, fun _ g4 => h6 τ g1 g2 g3 g4⟩, fun z => absurd hn z⟩, fun σ d Q h1 h2 h3 => mgo σ d Q h1 h2 ⟨fun _ => ⟨fun z => absurd z hf, fun _ => h3⟩, fun z => absurd hn z⟩⟩
    · exact ⟨-10 - nI (skp bs p'), V, fun σ d Q h1 h2 h3 h4 h5 h6 => xgo σ d Q h1 h2 h3 h4 h5 ⟨fun z => absurd z hn, fun _ => h6⟩, fun σ d Q h1 h2 h3 => mgo σ d Q h1 h2 ⟨fun z => absurd z hn, fun _ => h3⟩⟩
end RD
