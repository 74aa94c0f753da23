/-! ===== reading: the parts of a function ===== -/
section RF1
variable {bs : List Nat} {kk o dx dm a : Nat}
theorem jFs (hb : tok bs) (hkk : kk ≤ 100) (ho : o + 1 ≤ 8) (ha : a < 3) (hdx : 43 ≤ dx) (hdm : 67 ≤ dm) (item : ∀ p, p ≤ bs.length → jnt IX6_sum IX11_readTerm dx dm 0 2 kk bs (o + 1) p) (p : Nat) (xs : List Tm) (p0 : Nat) (hl : xs.length ≤ 2) (hp : p ≤ bs.length) (hxC : ∀ x ∈ xs, Can x) (hxl : xs.flatten.length + xs.length + p0 ≤ p) (ih : xs.length < 2 → ∀ qq w, p < qq → bs[qq]? = some 44 → (∀ x ∈ xs ++ [w], Can x) → (xs ++ [w]).flatten.length + (xs ++ [w]).length + p0 ≤ qq + 1 → ∃ LR : Nat ⊕ (Nat × List Tm), (match LR with
    | .inl e => qq + 1 ≤ e ∧ e ≤ bs.length ∧ skp bs e = e
    | .inr (p', ys) => qq + 1 < p' ∧ p' ≤ bs.length ∧ (∀ y ∈ ys, Can y) ∧ 1 ≤ ys.length ∧ ys.length ≤ 3 ∧ ys.flatten.length + p0 ≤ p') ∧ (∀ (σ : am_S) (mk d : Nat) (Q : Option Nat → am_S → Prop), XR bs σ (qq + 1) (o + 1) (mk + (xs ++ [w]).length) → mk + (xs ++ [w]).length ≤ qq + 1 → (∀ i y, ((xs ++ [w]))[i]? = some y → Ro σ (gP σ 5 (mk + i)) y) → bud (2 * (3 * (bs.length - (qq + 1)) + 3)) (13 * (3 * (bs.length - (qq + 1)) + 3)) σ → (match LR with
      | .inl e => ∀ τ, xF (3 * (e - (qq + 1)) + 3) σ τ → gS τ 7 5 = nI e → gS τ 3 3 = nI mk → stB mk σ τ → Q none τ
      | .inr (p', ys) => ∀ ov τ p1, xF (3 * (p' - (qq + 1)) + 1) σ τ → XR bs τ p1 (o + 1) mk → p1 ≤ bs.length → skp bs p1 = skp bs p' → stB mk σ τ → Ro τ ov (node 2 a ys) → Q ov τ) → am_X rn am_Lx IX6_called (d + dx + 1) 13 [some (.ref 7), some (.int (nI a)), some (.int (nI mk)), some (.int (1 : Int32)), some (.int (nI ((xs ++ [w]).length + 1)))] [] σ Q) ∧ (∀ (σ : am_S) (f T d : Nat) (Q : Int32 → am_S → Prop), MR bs σ (qq + 1) (o + 1) (f + (xs ++ [w]).length) T → f + (xs ++ [w]).length ≤ qq + 1 → 17280 ≤ T → T ≤ 17280 + 132 * (qq + 1) → ent σ 17280 f T 64 ((xs ++ [w])) → (match LR with
      | .inl e => ∀ v τ g, wr 17280 0 σ τ → gS τ 0 10 = nI e → gS τ 0 12 = 1 → gS τ 0 7 = nI g → g ≤ e + (kk + 1) → Q v τ
      | .inr (p', ys) => (bs[skp bs p']? = some 41 → ∀ q τ T', wr T f σ τ → MR bs τ (skp bs p' + 1) o f T' → T ≤ T' → T' ≤ T + 132 * (p' - (qq + 1)) + 65 → seg τ q (node 2 a ys) → 17280 ≤ q → q + (node 2 a ys).length ≤ T' → Q (nI q) τ) ∧ (bs[skp bs p']? ≠ some 41 → ∀ v τ g, wr 17280 0 σ τ → gS τ 0 10 = nI (skp bs p') → gS τ 0 12 = 1 → gS τ 0 7 = nI g → g ≤ skp bs p' + (kk + 1) → Q v τ)) → am_X ri am_Lm IX11_readFunction (d + dm + 1) 53 [some (.ref 0), some (.int (nI a)), some (.int (nI f)), some (.int (nI (xs ++ [w]).length)), some (.int (1 : Int32)), none] [] σ Q)) : ∃ LR : Nat ⊕ (Nat × List Tm), (match LR with
    | .inl e => p ≤ e ∧ e ≤ bs.length ∧ skp bs e = e
    | .inr (p', ys) => p < p' ∧ p' ≤ bs.length ∧ (∀ y ∈ ys, Can y) ∧ 1 ≤ ys.length ∧ ys.length ≤ 3 ∧ ys.flatten.length + p0 ≤ p') ∧ (∀ (σ : am_S) (mk d : Nat) (Q : Option Nat → am_S → Prop), XR bs σ p (o + 1) (mk + xs.length) → mk + xs.length ≤ p → (∀ i y, xs[i]? = some y → Ro σ (gP σ 5 (mk + i)) y) → bud (2 * (3 * (bs.length - p) + 3)) (13 * (3 * (bs.length - p) + 3)) σ → (match LR with
      | .inl e => ∀ τ, xF (3 * (e - p) + 3) σ τ → gS τ 7 5 = nI e → gS τ 3 3 = nI mk → stB mk σ τ → Q none τ
      | .inr (p', ys) => ∀ ov τ p1, xF (3 * (p' - p) + 1) σ τ → XR bs τ p1 (o + 1) mk → p1 ≤ bs.length → skp bs p1 = skp bs p' → stB mk σ τ → Ro τ ov (node 2 a ys) → Q ov τ) → am_X rn am_Lx IX6_called (d + dx + 1) 13 [some (.ref 7), some (.int (nI a)), some (.int (nI mk)), some (.int (1 : Int32)), some (.int (nI (xs.length + 1)))] [] σ Q) ∧ (∀ (σ : am_S) (f T d : Nat) (Q : Int32 → am_S → Prop), MR bs σ p (o + 1) (f + xs.length) T → f + xs.length ≤ p → 17280 ≤ T → T ≤ 17280 + 132 * p → ent σ 17280 f T 64 xs → (match LR with
      | .inl e => ∀ v τ g, wr 17280 0 σ τ → gS τ 0 10 = nI e → gS τ 0 12 = 1 → gS τ 0 7 = nI g → g ≤ e + (kk + 1) → Q v τ
      | .inr (p', ys) => (bs[skp bs p']? = some 41 → ∀ q τ T', wr T f σ τ → MR bs τ (skp bs p' + 1) o f T' → T ≤ T' → T' ≤ T + 132 * (p' - p) + 65 → seg τ q (node 2 a ys) → 17280 ≤ q → q + (node 2 a ys).length ≤ T' → Q (nI q) τ) ∧ (bs[skp bs p']? ≠ some 41 → ∀ v τ g, wr 17280 0 σ τ → gS τ 0 10 = nI (skp bs p') → gS τ 0 12 = 1 → gS τ 0 7 = nI g → g ≤ skp bs p' + (kk + 1) → Q v τ)) → am_X ri am_Lm IX11_readFunction (d + dm + 1) 53 [some (.ref 0), some (.int (nI a)), some (.int (nI f)), some (.int (nI xs.length)), some (.int (1 : Int32)), none] [] σ Q) := by
  have h64 := hb.1
  obtain ⟨RI, rf, xi, mi⟩ := item p hp
  have hxw : ∀ x ∈ xs, wf x := fun x hx => Can_wf (hxC x hx)
  cases RI with
  | inl e =>
    obtain ⟨r1, r2⟩ := rf
    refine ⟨.inl e, ⟨r1, r2⟩, ?_, ?_⟩
    · intro σ mk d Q hXR hmk hent hbud hQ
      refine vX6_called_13 ⟨fun z => absurd z (by decide), fun _ => pk_lt 3 (xs.length + 1) (fun h => by omega) (fun _ => ?_)⟩
      refine xi σ (mk + xs.length) d _ hXR hmk (bud_mono hbud (by omega) (by omega)) (fun τ g1 g2 g3 g4 => o_n rfl ?_)
      have go : am_X rn am_Lx IX6_called (d + dx + 1) 13 [some (.ref 7), some (.int (nI a)), some (.int (nI mk)), some (.int (0 : Int32)), some (.int (nI (xs.length + 1) + (1 : Int32)))] [] (wS (wP τ 5 (mk + xs.length) none) 3 3 (nI (mk + xs.length + 1))) Q := by
        generalize hσ1 : wS (wP τ 5 (mk + xs.length) none) 3 3 (nI (mk + xs.length + 1)) = σ1
        have g5 : gw [(3, 3), (7, 3), (7, 4), (7, 5)] [] [] [5, 6] 0 0 τ σ1 := by rw [← hσ1]; exact gw_wS (gw_wP gw_rfl (by simp) (by omega)) (by simp) (by omega)
        have e5 : gS σ1 7 5 = nI e := by rw [← hσ1, wS_ne (by omega)]; exact g2
        have g6 : xF (3 * (e - p) + 2) σ σ1 := gw_mono (gw_trans g1 g5) (fun _ h => h) (fun _ h => h) (fun _ h => h) (fun _ h => h) (by omega) (by omega)
        have bu : bud (2 * 1) (13 * 1) σ1 := bud_xF (k := 3 * (e - p) + 2) (l := 1) (bud_mono hbud (by omega) (by omega)) g6
        have ent2 : ∀ i y, (xs ++ [huge])[i]? = some y → Ro σ1 (gP σ1 5 (mk + i)) y := fun i y hy => by
          have e6 : gP σ1 5 = gP (wP τ 5 (mk + xs.length) none) 5 := by rw [← hσ1]; rfl
          rw [e6]
          rcases Nat.lt_or_ge i xs.length with hi | hi
          · rw [List.getElem?_append_left hi] at hy
            rw [wP_ne (by omega), g4 (mk + i) (by omega)]
            exact Ro_ext (hent i y hy) (gw_ext g6)
          · rw [List.getElem?_append_right hi] at hy
            have hi2 := get_lt hy
            simp at hi2
            have : i = xs.length := by omega
            subst this
            simp at hy
            subst hy
            rw [wP_at]
            exact Ro_huge
        refine vX6_called_13 ⟨fun _ => ?_, fun z => absurd rfl z⟩
        rw [show d + dx = (d + dx - 2) + 2 by omega]
        refine x_function (mk := mk) (L := xs ++ [huge]) (by simp) (by simp; omega) ha (by simp; omega) (by rw [← hσ1, wS_at, List.length_append]; rfl) ent2 (bud_mono bu (by omega) (by omega)) (fun ov υ t1 t2 t3 => ?_)
        have hov : ov = none := by
          cases ov with
          | none => rfl
          | some t => exact absurd (fits_part (Ro_some t3).1 huge (by simp)) huge_fits
        subst hov
        have g7 : xF (3 * (e - p) + 3) σ υ := xF_mono (xF_trans g6 (gw_mono (S' := [(3, 3), (7, 3), (7, 4), (7, 5)]) (A' := []) (J' := []) (P' := [5, 6]) t1 (by simp) (by simp) (by simp) (by simp) (show 2 ≤ 2 * 1 by omega) (show 8 ≤ 13 * 1 by omega))) (by omega)
        refine o_n rfl (hQ υ g7 ?_ t2 (fun i hi => ?_))
        · rw [gw_S t1 (by omega) (by simp)]; exact e5
        · rw [gw_P t1 (by omega) (by simp), ← hσ1]
          show gP (wP τ 5 (mk + xs.length) none) 5 i = _
          rw [wP_ne (by omega)]
          exact g4 i (by omega)
      have e5 : gS (wS (wP τ 5 (mk + xs.length) none) 3 3 (nI (mk + xs.length + 1))) 7 5 = nI e := by rw [wS_ne (by omega)]; exact g2
      rw [show d + dx = (d + dx - 1) + 1 by omega]
      refine (x_push (σ := τ) (mk := mk + xs.length) (o := none) (x := huge) (by omega) g3 Ro_huge ?_).1 rfl
      rw [e5, show d + dx - 1 + 1 = d + dx by omega]
      exact ⟨fun _ => go, fun z => absurd (nI_pos' (by omega)) z⟩
    · intro σ f T d Q hMR hf hT1 hT2 hent hQ
      refine vX11_readFunction_53 ⟨fun z => absurd z (by decide), fun _ => ?_⟩
      refine mi σ (f + xs.length) T d _ hMR hf hT1 hT2 (fun v τ g w1 w2 w3 w4 w5 => ?_)
      rw [show d + dm = (d + dm - 1) + 1 by omega]
      refine m_put w4 (by omega) ?_
      refine ⟨fun z => ?_, fun _ => ?_⟩
      · exfalso
        rw [wS_ne (by omega), gS_wA, w3] at z
        exact absurd z (by decide)
      · refine hQ _ _ (g + 1) (wr_S (wr_5 w1 (Nat.zero_le _)) (by simp)) ?_ ?_ (wS_at _ _ _ _) (by omega)
        · rw [wS_ne (by omega), gS_wA]; exact w2
        · rw [wS_ne (by omega), gS_wA]; exact w3
  | inr R2 =>
    obtain ⟨p', y⟩ := R2
    obtain ⟨r1, r2, hyC, hyl⟩ := rf
    have hyw := Can_wf hyC
    have hyp := wf_pos hyw
    obtain ⟨q1, q2, q3⟩ := skp_ok (bs := bs) r2
    have hC2 : ∀ x ∈ xs ++ [y], Can x := fun x hx => by
      rcases List.mem_append.mp hx with h | h
      · exact hxC x h
      · rw [List.mem_singleton.mp h]; exact hyC
    have hfl2 : (xs ++ [y]).flatten.length = xs.flatten.length + y.length := by simp
    have hll2 : (xs ++ [y]).length = xs.length + 1 := by simp
    -- the class up to the comma
    have classy : ∀ (σ : am_S) (mk d : Nat) (Q : Option Nat → am_S → Prop), XR bs σ p (o + 1) (mk + xs.length) → mk + xs.length ≤ p → (∀ i y, xs[i]? = some y → Ro σ (gP σ 5 (mk + i)) y) → bud (2 * (3 * (bs.length - p) + 3)) (13 * (3 * (bs.length - p) + 3)) σ → (∀ τ, xF (3 * (p' - p)) σ τ → stB mk σ τ → (∀ i z, (xs ++ [y])[i]? = some z → Ro τ (gP τ 5 (mk + i)) z) → (bs[skp bs p']? = some 44 ∧ xs.length < 2 → XR bs τ (skp bs p' + 1) (o + 1) (mk + (xs ++ [y]).length) → am_X rn am_Lx IX6_called (d + dx + 1) 13 [some (.ref 7), some (.int (nI a)), some (.int (nI mk)), some (.int (1 : Int32)), some (.int (nI ((xs ++ [y]).length + 1)))] [] τ Q) ∧ (¬ (bs[skp bs p']? = some 44 ∧ xs.length < 2) → ∀ p1, XR bs τ p1 (o + 1) (mk + (xs ++ [y]).length) → p1 ≤ bs.length → skp bs p1 = skp bs p' → am_X rn am_Lx IX6_called (d + dx + 1) 13 [some (.ref 7), some (.int (nI a)), some (.int (nI mk)), some (.int (0 : Int32)), some (.int (nI ((xs ++ [y]).length + 1)))] [] τ Q)) → am_X rn am_Lx IX6_called (d + dx + 1) 13 [some (.ref 7), some (.int (nI a)), some (.int (nI mk)), some (.int (1 : Int32)), some (.int (nI (xs.length + 1)))] [] σ Q := by
      intro σ mk d Q hXR hmk hent hbud hK
      refine vX6_called_13 ⟨fun z => absurd z (by decide), fun _ => pk_lt 3 (xs.length + 1) (fun h => by omega) (fun _ => ?_)⟩
      refine xi σ (mk + xs.length) d _ hXR hmk (bud_mono hbud (by omega) (by omega)) (fun ov τ g1 g2 g3 g4 => ?_)
      obtain ⟨hTx, h3, h4, h5, hmk3, hlts⟩ := g2
      have key : (0 ≤ (gS (wS (wP τ 5 (mk + xs.length) ov) 3 3 (nI (mk + xs.length + 1))) 7 5) → am_X rn am_Lx IX6_called (d + dx + 1) 13 [some (.ref 7), some (.int (nI a)), some (.int (nI mk)), some (.int (0 : Int32)), some (.int (nI (xs.length + 1) + (1 : Int32)))] [] (wS (wP τ 5 (mk + xs.length) ov) 3 3 (nI (mk + xs.length + 1))) Q) ∧ (¬ 0 ≤ (gS (wS (wP τ 5 (mk + xs.length) ov) 3 3 (nI (mk + xs.length + 1))) 7 5) → ((3 : Int32) ≤ nI (xs.length + 1) → am_X rn am_Lx IX6_called (d + dx + 1) 13 [some (.ref 7), some (.int (nI a)), some (.int (nI mk)), some (.int (0 : Int32)), some (.int (nI (xs.length + 1) + (1 : Int32)))] [] (wS (wP τ 5 (mk + xs.length) ov) 3 3 (nI (mk + xs.length + 1))) Q) ∧ (¬ (3 : Int32) ≤ nI (xs.length + 1) → am_K ri am_Lx IX6_took (d + dx) [.ref 7, .int (44 : Int32)] (wS (wP τ 5 (mk + xs.length) ov) 3 3 (nI (mk + xs.length + 1))) (fun r7 σ7 => (r7 = 0 → am_X rn am_Lx IX6_called (d + dx + 1) 13 [some (.ref 7), some (.int (nI a)), some (.int (nI mk)), some (.int (0 : Int32)), some (.int (nI (xs.length + 1) + (1 : Int32)))] [] σ7 Q) ∧ (¬ r7 = 0 → am_X rn am_Lx IX6_called (d + dx + 1) 13 [some (.ref 7), some (.int (nI a)), some (.int (nI mk)), some (.int (1 : Int32)), some (.int (nI (xs.length + 1) + (1 : Int32)))] [] σ7 Q)))) := by
        generalize hσ1 : wS (wP τ 5 (mk + xs.length) ov) 3 3 (nI (mk + xs.length + 1)) = σ1
        have g5 : gw [(3, 3), (7, 3), (7, 4), (7, 5)] [] [] [5, 6] 0 0 τ σ1 := by rw [← hσ1]; exact gw_wS (gw_wP gw_rfl (by simp) (by omega)) (by simp) (by omega)
        have e5 : gS σ1 7 5 = -1 := by rw [← hσ1, wS_ne (by omega)]; exact h5
        have e3 : gS σ1 7 3 = nI p' := by rw [← hσ1, wS_ne (by omega)]; exact h3
        have e4 : gS σ1 7 4 = nI (o + 1) := by rw [← hσ1, wS_ne (by omega)]; exact h4
        have e33 : gS σ1 3 3 = nI (mk + (xs ++ [y]).length) := by rw [← hσ1, wS_at, hll2]; rfl
        have g6 : xF (3 * (p' - p)) σ σ1 := gw_mono (gw_trans g1 g5) (fun _ h => h) (fun _ h => h) (fun _ h => h) (fun _ h => h) (by omega) (by omega)
        have x1 : XR bs σ1 p' (o + 1) (mk + (xs ++ [y]).length) := XR_gw hXR g6 e3 e4 e5 e33
        have sB : stB mk σ σ1 := fun i hi => by
          rw [← hσ1]
          show gP (wP τ 5 (mk + xs.length) ov) 5 i = _
          rw [wP_ne (by omega)]
          exact g3 i (by omega)
        have ent2 : ∀ i z, (xs ++ [y])[i]? = some z → Ro σ1 (gP σ1 5 (mk + i)) z := fun i z hz => by
          have e6 : gP σ1 5 = gP (wP τ 5 (mk + xs.length) ov) 5 := by rw [← hσ1]; rfl
          rw [e6]
          rcases Nat.lt_or_ge i xs.length with hi | hi
          · rw [List.getElem?_append_left hi] at hz
            rw [wP_ne (by omega), g3 (mk + i) (by omega)]
            exact Ro_ext (hent i z hz) (gw_ext g6)
          · rw [List.getElem?_append_right hi] at hz
            have hi2 := get_lt hz
            simp at hi2
            have : i = xs.length := by omega
            subst this
            simp at hz
            subst hz
            rw [wP_at]
            exact Ro_ext g4 (gw_ext g5)
        rw [e5, nI_1, ← hll2]
        refine ⟨fun z => absurd z i_m1_neg, fun _ => pk_le 3 (xs ++ [y]).length (fun h => ?_) (fun h => ?_)⟩
        · exact (hK σ1 g6 sB ent2).2 (fun z => by omega) p' x1 r2 rfl
        · rw [show d + dx = (d + dx - 2) + 2 by omega]
          refine x_took (c := 44) hb x1.1 r2 e3 (by omega) (by omega) (fun hs τ2 k1 k2 => ⟨fun z => absurd z (by decide), fun _ => ?_⟩) (fun hs τ2 k1 k2 => ⟨fun _ => ?_, fun z => absurd rfl z⟩)
          · have f1 : xF (3 * (p' - p)) σ τ2 := xF_mono (xF_trans g6 (xF_fr k1)) (by omega)
            have eP : gP τ2 5 = gP σ1 5 := k1.2.2.2.1 5 (by simp)
            rw [show d + dx - 2 + 2 = d + dx by omega]
            refine (hK τ2 f1 (fun i hi => by rw [eP]; exact sB i hi) (fun i z hz => by rw [eP]; exact Ro_ext (ent2 i z hz) (gw_ext (xF_fr k1)))).1 ⟨hs, by omega⟩ (XR_gw hXR f1 k2 ?_ ?_ ?_)
            · rw [k1.1 7 4 (by simp)]; exact e4
            · rw [k1.1 7 5 (by simp)]; exact e5
            · rw [k1.1 3 3 (by simp)]; exact e33
          · have f1 : xF (3 * (p' - p)) σ τ2 := xF_mono (xF_trans g6 (xF_fr k1)) (by omega)
            have eP : gP τ2 5 = gP σ1 5 := k1.2.2.2.1 5 (by simp)
            rw [show d + dx - 2 + 2 = d + dx by omega]
            refine (hK τ2 f1 (fun i hi => by rw [eP]; exact sB i hi) (fun i z hz => by rw [eP]; exact Ro_ext (ent2 i z hz) (gw_ext (xF_fr k1)))).2 (fun z => hs z.1) (skp bs p') (XR_gw hXR f1 k2 ?_ ?_ ?_) q2 (skp_skp r2)
            · rw [k1.1 7 4 (by simp)]; exact e4
            · rw [k1.1 7 5 (by simp)]; exact e5
            · rw [k1.1 3 3 (by simp)]; exact e33
      have hpush := x_push (d := d + dx - 1) (σ := τ) (mk := mk + xs.length) (o := ov) (x := y) (Q := fun _ σ6 => (0 ≤ (gS σ6 7 5) → am_X rn am_Lx IX6_called (d + dx + 1) 13 [some (.ref 7), some (.int (nI a)), some (.int (nI mk)), some (.int (0 : Int32)), some (.int (nI (xs.length + 1) + (1 : Int32)))] [] σ6 Q) ∧ (¬ 0 ≤ (gS σ6 7 5) → ((3 : Int32) ≤ nI (xs.length + 1) → am_X rn am_Lx IX6_called (d + dx + 1) 13 [some (.ref 7), some (.int (nI a)), some (.int (nI mk)), some (.int (0 : Int32)), some (.int (nI (xs.length + 1) + (1 : Int32)))] [] σ6 Q) ∧ (¬ (3 : Int32) ≤ nI (xs.length + 1) → am_K ri am_Lx IX6_took (d + dx) [.ref 7, .int (44 : Int32)] σ6 (fun r7 σ7 => (r7 = 0 → am_X rn am_Lx IX6_called (d + dx + 1) 13 [some (.ref 7), some (.int (nI a)), some (.int (nI mk)), some (.int (0 : Int32)), some (.int (nI (xs.length + 1) + (1 : Int32)))] [] σ7 Q) ∧ (¬ r7 = 0 → am_X rn am_Lx IX6_called (d + dx + 1) 13 [some (.ref 7), some (.int (nI a)), some (.int (nI mk)), some (.int (1 : Int32)), some (.int (nI (xs.length + 1) + (1 : Int32)))] [] σ7 Q))))) (by omega) hmk3 g4 key
      rw [show d + dx - 1 + 1 = d + dx by omega] at hpush
      exact hpush
    -- the reference up to the next byte
    have refy : ∀ (σ : am_S) (f T d : Nat) (Q : Int32 → am_S → Prop), MR bs σ p (o + 1) (f + xs.length) T → f + xs.length ≤ p → 17280 ≤ T → T ≤ 17280 + 132 * p → ent σ 17280 f T 64 xs → (∀ τ T', wr T f σ τ → T ≤ T' → T' ≤ T + 132 * (p' - p) → MR bs τ (skp bs p') (o + 1) (f + (xs ++ [y]).length) T' → ent τ 17280 f T' 64 (xs ++ [y]) → (bs[skp bs p']? = some 44 ∧ xs.length < 2 → am_X ri am_Lm IX11_readFunction (d + dm + 1) 53 [some (.ref 0), some (.int (nI a)), some (.int (nI f)), some (.int (nI (xs ++ [y]).length)), some (.int (1 : Int32)), none] [] (wS τ 0 10 (nI (skp bs p' + 1))) Q) ∧ (bs[skp bs p']? = some 41 → am_X ri am_Lm IX11_readFunction (d + dm + 1) 53 [some (.ref 0), some (.int (nI a)), some (.int (nI f)), some (.int (nI (xs ++ [y]).length)), some (.int (0 : Int32)), none] [] τ Q) ∧ (¬ (bs[skp bs p']? = some 44 ∧ xs.length < 2) → bs[skp bs p']? ≠ some 41 → ∀ v, Q v (wS τ 0 12 (1 : Int32)))) → am_X ri am_Lm IX11_readFunction (d + dm + 1) 53 [some (.ref 0), some (.int (nI a)), some (.int (nI f)), some (.int (nI xs.length)), some (.int (1 : Int32)), none] [] σ Q := by
      intro σ f T d Q hMR hf hT1 hT2 hent hK
      refine vX11_readFunction_53 ⟨fun z => absurd z (by decide), fun _ => ?_⟩
      refine mi σ (f + xs.length) T d _ hMR hf hT1 hT2 (fun q τ T' w1 w2 w3 w4 w5 w6 w7 => ?_)
      obtain ⟨m1, m2, m3, m4, m5, m6, m7⟩ := w2
      rw [show d + dm = (d + dm - 1) + 1 by omega]
      refine m_put (σ := τ) m5 (by omega) ?_
      rw [show d + dm - 1 + 1 = d + dm by omega]
      generalize hσ1 : wS (wA τ 5 (f + xs.length) (nI q)) 0 7 (nI (f + xs.length + 1)) = σ1
      have s10 : gS σ1 0 10 = nI p' := by rw [← hσ1, wS_ne (by omega), gS_wA]; exact m2
      have s11 : gS σ1 0 11 = nI (o + 1) := by rw [← hσ1, wS_ne (by omega), gS_wA]; exact m3
      have s12 : gS σ1 0 12 = 0 := by rw [← hσ1, wS_ne (by omega), gS_wA]; exact m4
      have s7 : gS σ1 0 7 = nI (f + (xs ++ [y]).length) := by rw [← hσ1, wS_at, hll2]; rfl
      have s4 : gS σ1 0 4 = nI T' := by rw [← hσ1, wS_ne (by omega), gS_wA]; exact m6
      have s5 : gS σ1 0 5 = nI 0 := by rw [← hσ1, wS_ne (by omega), gS_wA]; exact m7
      have w8 : wr T f σ σ1 := by rw [← hσ1]; exact wr_S (wr_5 (wr_mono w1 (Nat.le_refl _) (by omega)) (by omega)) (by simp)
      have w9 : wr T' (f + xs.length) τ σ1 := by rw [← hσ1]; exact wr_S (wr_5 wr_rfl (Nat.le_refl _)) (by simp)
      have ent2 : ent σ1 17280 f T' 64 (xs ++ [y]) := by
        intro i z hz
        rcases Nat.lt_or_ge i xs.length with hi | hi
        · rw [List.getElem?_append_left hi] at hz
          have en := wr_ent (wr_ent hent w1 (Nat.le_refl _) (Nat.le_refl _)) w9 w3 (Nat.le_refl _)
          exact ent_T en w3 i z hz
        · rw [List.getElem?_append_right hi] at hz
          have hi2 := get_lt hz
          simp at hi2
          have : i = xs.length := by omega
          subst this
          simp at hz
          subst hz
          refine ⟨q, by rw [← hσ1, gA_wS]; exact wA_at _ _ _ _, canF_mono (by omega) (canF_len y hyC), wr_seg w9 (by omega) w5, by omega⟩
      have tm1 : Tm' bs σ1 := wr_tm hMR.1 w8
      refine ⟨fun _ => ?_, fun z => absurd s12 z⟩
      rw [show d + dm = (d + dm - 1) + 1 by omega]
      refine m_next hb tm1 r2 s10 (fun τ2 k1 k2 => ?_)
      have wk2 : ∀ {lo f}, wr lo f σ1 τ2 := fun {lo f} => wr_fr10 k1
      have t12 : gS τ2 0 12 = 0 := by rw [k1.1 0 12 (by simp)]; exact s12
      have hMR2 : MR bs τ2 (skp bs p') (o + 1) (f + (xs ++ [y]).length) T' := ⟨wr_tm tm1 (wk2 (lo := 0) (f := 0)), k2, by rw [k1.1 0 11 (by simp)]; exact s11, t12, by rw [k1.1 0 7 (by simp)]; exact s7, by rw [k1.1 0 4 (by simp)]; exact s4, by rw [k1.1 0 5 (by simp)]; exact s5⟩
      obtain ⟨hK1, hK2, hK3⟩ := hK τ2 T' (wr_trans w8 wk2) w3 (by omega) hMR2 (wr_ent ent2 wk2 (Nat.le_refl _) (Nat.le_refl _))
      have fail : ¬ (bs[skp bs p']? = some 44 ∧ xs.length < 2) → bs[skp bs p']? ≠ some 41 → am_K ri am_Lm IX11_fail (d + dm - 1 + 1) [.ref 0] τ2 (fun r5 σ5 => Q r5 σ5) := fun z1 z2 => vX11_fail ⟨Or.inr rfl, hK3 z1 z2 _⟩
      rw [k2, nI_1, nI_1, ← hll2]
      refine ⟨fun z => ⟨fun z2 => fail (fun e => z ((chm_c (c := 44) hb (by omega)).mpr e.1)) (fun e => z2 ((chm_c (c := 41) hb (by omega)).mpr e)), fun z2 => ?_⟩, fun z => pk_le 3 (xs ++ [y]).length (fun h => ⟨fun z2 => fail (fun e => by omega) (fun e => z2 ((chm_c (c := 41) hb (by omega)).mpr e)), fun z2 => ?_⟩) (fun h => ?_)⟩
      · rw [show d + dm - 1 + 1 = d + dm by omega]
        exact hK2 ((chm_c (c := 41) hb (by omega)).mp z2)
      · rw [show d + dm - 1 + 1 = d + dm by omega]
        exact hK2 ((chm_c (c := 41) hb (by omega)).mp z2)
      · rw [show d + dm - 1 + 1 = d + dm by omega]
        exact hK1 ⟨(chm_c (c := 44) hb (by omega)).mp z, by omega⟩
    by_cases hs : bs[skp bs p']? = some 44 ∧ xs.length < 2
    · obtain ⟨LR, rR, xR, mR⟩ := ih hs.2 (skp bs p') y (by omega) hs.1 hC2 (by omega)
      refine ⟨LR, ?_, ?_, ?_⟩
      · cases LR with
        | inl e => exact ⟨by have := rR.1; omega, rR.2⟩
        | inr R3 => exact ⟨by have := rR.1; omega, rR.2⟩
      · intro σ mk d Q hXR hmk hent hbud hQ
        refine classy σ mk d Q hXR hmk hent hbud (fun τ f1 f2 f3 => ⟨fun _ f4 => ?_, fun z => absurd hs z⟩)
        refine xR τ mk d Q f4 (by omega) f3 (bud_xF (k := 3 * (p' - p)) (bud_mono hbud (by omega) (by omega)) f1) ?_
        cases LR with
        | inl e =>
          have := rR.1
          exact fun υ h1 h2 h3 h4 => hQ υ (xF_mono (xF_trans f1 h1) (by omega)) h2 h3 (stB_trans f2 h4)
        | inr R3 =>
          have := rR.1
          exact fun ov υ p1 h1 h2 h3 h4 h5 h6 => hQ ov υ p1 (xF_mono (xF_trans f1 h1) (by omega)) h2 h3 h4 (stB_trans f2 h5) h6
      · intro σ f T d Q hMR hf hT1 hT2 hent hQ
        refine refy σ f T d Q hMR hf hT1 hT2 hent (fun τ T' f1 f2 f3 f4 f5 => ⟨fun _ => ?_, fun z => absurd (hs.1.symm.trans z) (by decide), fun z => absurd hs z⟩)
        have hMR3 : MR bs (wS τ 0 10 (nI (skp bs p' + 1))) (skp bs p' + 1) (o + 1) (f + (xs ++ [y]).length) T' := by
          obtain ⟨m1, m2, m3, m4, m5, m6, m7⟩ := f4
          exact ⟨wr_tm m1 (wr_S (lo := 0) (f := 0) wr_rfl (by simp)), wS_at _ _ _ _, by rw [wS_ne (by omega)]; exact m3, by rw [wS_ne (by omega)]; exact m4, by rw [wS_ne (by omega)]; exact m5, by rw [wS_ne (by omega)]; exact m6, by rw [wS_ne (by omega)]; exact m7⟩
        have wS1 : ∀ {lo f}, wr lo f τ (wS τ 0 10 (nI (skp bs p' + 1))) := fun {lo f} => wr_S wr_rfl (by simp)
        refine mR _ f T' d Q hMR3 (by omega) (by omega) (by omega) (wr_ent f5 wS1 (Nat.le_refl _) (Nat.le_refl _)) ?_
        cases LR with
        | inl e => exact fun v υ g h1 h2 h3 h4 h5 => hQ v υ g (wr_trans (wr_mono (wr_trans f1 wS1) hT1 (Nat.zero_le _)) h1) h2 h3 h4 h5
        | inr R3 =>
          have := rR.1
          refine ⟨fun z q υ T2 h1 h2 h3 h4 h5 h6 h7 => hQ.1 z q υ T2 (wr_trans (wr_trans f1 wS1) (wr_mono h1 f2 (Nat.le_refl _))) h2 (by omega) (by omega) h5 h6 h7, fun z v υ g h1 h2 h3 h4 h5 => hQ.2 z v υ g (wr_trans (wr_mono (wr_trans f1 wS1) hT1 (Nat.zero_le _)) h1) h2 h3 h4 h5⟩
    · refine ⟨.inr (p', xs ++ [y]), ⟨r1, r2, hC2, by omega, by omega, by omega⟩, ?_, ?_⟩
      · intro σ mk d Q hXR hmk hent hbud hQ
        refine classy σ mk d Q hXR hmk hent hbud (fun τ f1 f2 f3 => ⟨fun z => absurd z hs, fun _ p1 f4 f5 f6 => ?_⟩)
        refine vX6_called_13 ⟨fun _ => ?_, fun z => absurd rfl z⟩
        rw [show d + dx = (d + dx - 2) + 2 by omega]
        refine x_function (mk := mk) (L := xs ++ [y]) (by omega) (by omega) ha (by omega) f4.2.2.2.2.1 f3 (bud_mono (bud_xF (k := 3 * (p' - p)) (l := 1) (bud_mono hbud (by omega) (by omega)) f1) (by omega) (by omega)) (fun ov υ t1 t2 t3 => ?_)
        have t4 : xF 1 τ υ := gw_mono t1 (by simp) (by simp) (by simp) (by simp) (by omega) (by omega)
        have t5 : xF (3 * (p' - p) + 1) σ υ := xF_trans f1 t4
        have := hQ ov υ p1 t5 (XR_gw hXR t5 (by rw [gw_S t1 (by omega) (by simp)]; exact f4.2.1) (by rw [gw_S t1 (by omega) (by simp)]; exact f4.2.2.1) (by rw [gw_S t1 (by omega) (by simp)]; exact f4.2.2.2.1) t2) f5 f6 (fun i hi => by rw [gw_P t1 (by omega) (by simp)]; exact f2 i hi) t3
        exact ⟨fun z => (by subst z; exact this), fun u z => (by subst z; exact this)⟩
      · intro σ f T d Q hMR hf hT1 hT2 hent hQ
        refine refy σ f T d Q hMR hf hT1 hT2 hent (fun τ T' f1 f2 f3 f4 f5 => ⟨fun z => absurd z hs, fun h41 => ?_, fun _ h41 v => ?_⟩)
        · obtain ⟨m1, m2, m3, m4, m5, m6, m7⟩ := f4
          refine vX11_readFunction_53 ⟨fun _ => ?_, fun z => absurd rfl z⟩
          rw [m2, m3, nI_1, nI_pred]
          have hnl := node_len 2 a (xs ++ [y])
          rw [show d + dm = (d + dm - 2) + 2 by omega]
          have wS2 : ∀ {lo f}, wr lo f τ (wS (wS τ 0 10 (nI (skp bs p' + 1))) 0 11 (nI o)) := fun {lo f} => wr_S (wr_S wr_rfl (by simp)) (by simp)
          refine m_made (lo := 17280) (k := 2) (L := xs ++ [y]) (T := T') (b := 0) (wr_ent f5 wS2 (Nat.le_refl _) (Nat.le_refl _)) (by omega) (by rw [wS_ne (by omega), wS_ne (by omega)]; exact m5) (by rw [wS_ne (by omega), wS_ne (by omega)]; exact m6) (by omega) (by rw [wS_ne (by omega), wS_ne (by omega)]; exact m7) (by omega) (fun v υ j1 j2 j3 => ?_)
          rcases j3 with ⟨_, j4, j5, j6, rfl, j7⟩ | ⟨j4, _⟩
          · refine hQ.1 h41 T' υ _ (wr_trans (wr_trans f1 wS2) (wr_mono (wr_wk j1) f2 (Nat.le_refl _))) ⟨wr_tm m1 (wr_trans wS2 (wr_wk j1)), ?_, ?_, ?_, j2, j6, j5⟩ (by omega) (by omega) j7 (by omega) (Nat.le_refl _)
            · rw [j1.1 0 10 (by simp), wS_ne (by omega), wS_at]
            · rw [j1.1 0 11 (by simp), wS_at]
            · rw [j1.1 0 12 (by simp), wS_ne (by omega), wS_ne (by omega)]; exact m4
          · omega
        · obtain ⟨m1, m2, m3, m4, m5, m6, m7⟩ := f4
          exact hQ.2 h41 v _ _ (wr_S (wr_mono f1 hT1 (Nat.zero_le _)) (by simp)) (by rw [wS_ne (by omega)]; exact m2) (wS_at _ _ _ _) (by rw [wS_ne (by omega)]; exact m5) (by omega)
theorem jF (hb : tok bs) (hkk : kk ≤ 100) (ho : o + 1 ≤ 8) (ha : a < 3) (hdx : 43 ≤ dx) (hdm : 67 ≤ dm) (item : ∀ p, p ≤ bs.length → jnt IX6_sum IX11_readTerm dx dm 0 2 kk bs (o + 1) p) : ∀ (m p : Nat) (xs : List Tm) (p0 : Nat), xs.length + m = 2 → p ≤ bs.length → (∀ x ∈ xs, Can x) → xs.flatten.length + xs.length + p0 ≤ p → ∃ LR : Nat ⊕ (Nat × List Tm), (match LR with
    | .inl e => p ≤ e ∧ e ≤ bs.length ∧ skp bs e = e
    | .inr (p', ys) => p < p' ∧ p' ≤ bs.length ∧ (∀ y ∈ ys, Can y) ∧ 1 ≤ ys.length ∧ ys.length ≤ 3 ∧ ys.flatten.length + p0 ≤ p') ∧ (∀ (σ : am_S) (mk d : Nat) (Q : Option Nat → am_S → Prop), XR bs σ p (o + 1) (mk + xs.length) → mk + xs.length ≤ p → (∀ i y, xs[i]? = some y → Ro σ (gP σ 5 (mk + i)) y) → bud (2 * (3 * (bs.length - p) + 3)) (13 * (3 * (bs.length - p) + 3)) σ → (match LR with
      | .inl e => ∀ τ, xF (3 * (e - p) + 3) σ τ → gS τ 7 5 = nI e → gS τ 3 3 = nI mk → stB mk σ τ → Q none τ
      | .inr (p', ys) => ∀ ov τ p1, xF (3 * (p' - p) + 1) σ τ → XR bs τ p1 (o + 1) mk → p1 ≤ bs.length → skp bs p1 = skp bs p' → stB mk σ τ → Ro τ ov (node 2 a ys) → Q ov τ) → am_X rn am_Lx IX6_called (d + dx + 1) 13 [some (.ref 7), some (.int (nI a)), some (.int (nI mk)), some (.int (1 : Int32)), some (.int (nI (xs.length + 1)))] [] σ Q) ∧ (∀ (σ : am_S) (f T d : Nat) (Q : Int32 → am_S → Prop), MR bs σ p (o + 1) (f + xs.length) T → f + xs.length ≤ p → 17280 ≤ T → T ≤ 17280 + 132 * p → ent σ 17280 f T 64 xs → (match LR with
      | .inl e => ∀ v τ g, wr 17280 0 σ τ → gS τ 0 10 = nI e → gS τ 0 12 = 1 → gS τ 0 7 = nI g → g ≤ e + (kk + 1) → Q v τ
      | .inr (p', ys) => (bs[skp bs p']? = some 41 → ∀ q τ T', wr T f σ τ → MR bs τ (skp bs p' + 1) o f T' → T ≤ T' → T' ≤ T + 132 * (p' - p) + 65 → seg τ q (node 2 a ys) → 17280 ≤ q → q + (node 2 a ys).length ≤ T' → Q (nI q) τ) ∧ (bs[skp bs p']? ≠ some 41 → ∀ v τ g, wr 17280 0 σ τ → gS τ 0 10 = nI (skp bs p') → gS τ 0 12 = 1 → gS τ 0 7 = nI g → g ≤ skp bs p' + (kk + 1) → Q v τ)) → am_X ri am_Lm IX11_readFunction (d + dm + 1) 53 [some (.ref 0), some (.int (nI a)), some (.int (nI f)), some (.int (nI xs.length)), some (.int (1 : Int32)), none] [] σ Q) := by
  intro m
  induction m with
  | zero =>
    intro p xs p0 hl hp hxC hxl
    exact jFs hb hkk ho ha hdx hdm item p xs p0 (by omega) hp hxC hxl (fun h => absurd h (by omega))
  | succ m ih =>
    intro p xs p0 hl hp hxC hxl
    refine jFs hb hkk ho ha hdx hdm item p xs p0 (by omega) hp hxC hxl (fun h q y h1 h2 h3 h4 => ih (q + 1) (xs ++ [y]) p0 (by simp; omega) (by have := get_lt h2; omega) h3 h4)
end RF1
