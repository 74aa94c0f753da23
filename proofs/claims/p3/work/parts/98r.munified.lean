/-! ===== the reference: unified ===== -/
section UD
variable {σ τ υ : am_S} {U : List (Tm × Int)} {k d : Nat} {V : Sv}
theorem thU_at (hU : okU k U) {s i : Nat} : ∀ {j : Nat}, i < j → j ≤ vn U → thU k U s j (nm (U.getD i ([], 0)).1) = joinT k (pxs U i s (uB U).length)
  | 0, h, _ => by omega
  | j + 1, h, hj => by
    have hvn := vn_le U
    simp only [thU]
    by_cases e : i = j
    · subst e
      rw [if_pos rfl]
    · rw [if_neg, thU_at hU (j := j) (by omega) (by omega)]
      intro hc
      have hi : i < U.length := by omega
      have hj2 : j < U.length := by omega
      rw [List.getD_eq_getElem?_getD, List.getElem?_eq_getElem hi, List.getD_eq_getElem?_getD, List.getElem?_eq_getElem hj2] at hc
      have hc' : nm U[i].1 = nm U[j].1 := hc
      have k1 := (hU.2.2.2.2.1 i _ (List.getElem?_eq_getElem hi)).mp (by omega)
      have k2 := (hU.2.2.2.2.1 j _ (List.getElem?_eq_getElem hj2)).mp (by omega)
      have e1 := (hU.2.2.2.2.2 _ (List.getElem_mem hi) k1).1
      have e2 := (hU.2.2.2.2.2 _ (List.getElem_mem hj2) k2).1
      have hlt := so_lt (List.pairwise_map.mp hU.2.2.2.1) (i := i) (j := j) (by omega) hj2
      rw [e1, e2, hc'] at hlt
      exact tlt_irr _ hlt
theorem join_pts (hU : okU k U) (hk : k = 3 ∨ k = 4) (hm : (uB U).length ≤ 16) {s j : Nat} (hne : pxs U j s (uB U).length ≠ []) : canF 41 (joinT k (pxs U j s (uB U).length)) ∧ (pts (joinT k (pxs U j s (uB U).length))).length ≤ 1000 := by
  have hok := pxs_ok (j := j) (s := s) hU hk hm
  have hlen := pxs_len (j := j) (s := s) hU (Nat.le_refl (uB U).length)
  refine ⟨canF_join hk (pxs_canF hU hk hm) hne, ?_⟩
  generalize pxs U j s (uB U).length = xs at *
  match xs, hne with
  | [z], _ =>
    have hz := hok z (by simp)
    rw [joinT_one hk hz.1]
    have := (fits_pts hz.1 hz.2.1).1
    omega
  | z :: w :: r, _ =>
    rw [joinT_two hk (fun y hy => (hok y hy).1) (by simp), flK_self (fun y hy => (hok y hy).2.2), pts_node (fun y hy => Can_wf (hok y (srt_mem.mp hy)).1), srt_len]
    omega
theorem canF_var {a : Nat} (ha : a < 22) : canF 41 (node 0 a []) := canF_mono (by rw [node_len]; simp) (canF_len _ (can_v ha))
theorem m_unified {g : Option (Nat × List (Tm × Int))} {i s t : Int32} {Q : Int32 → am_S → Prop} (hV : Sm σ V) (h : Um g σ) (hb : ¬ ((0 ≤ i.toInt ∧ i.toInt < (gL g).length) ∧ isSl s ∧ isSl t) → Q (-1) σ) (hn : (0 ≤ i.toInt ∧ i.toInt < (gL g).length) → ∀ k, k < 16 → s = nI k → isSl t → V k = none → Q (-2) σ)
    (h1 : ∀ p j b k x l, g = some p → i = nI j → (uG p.2)[j]? = some b → k < 16 → s = nI k → V k = some x → l < 16 → t = nI l → ∀ τ, mP σ τ → (fits (sub (thU p.1 p.2 b (vn p.2)) x) → Sm τ (uV V l (sub (thU p.1 p.2 b (vn p.2)) x)) → Q (nI (sub (thU p.1 p.2 b (vn p.2)) x).length) τ) ∧ (¬ fits (sub (thU p.1 p.2 b (vn p.2)) x) → Sm τ V → Q (-4) τ)) : am_K ri am_Lm IX11_unified (d + 131) [.ref 0, .int i, .int s, .int t] σ Q := by
  obtain ⟨l1, l2⟩ := mL_len h
  refine vX11_unified ?_
  rw [l1]
  refine ⟨_, _, m_inI (d := d + 129) (a := 0) (b := ((gL g).length : Int) - 1) j_0 (nI_p64 l2), ?_⟩
  by_cases hi : 0 ≤ i.toInt ∧ i.toInt ≤ ((gL g).length : Int) - 1
  · rw [b01_t hi]
    refine ⟨fun z => absurd z (by decide), fun _ => ?_⟩
    obtain ⟨j, _, hj, ei⟩ := i_2 (n := i) (lo := 0) (hi := (gL g).length - 1) (by omega) ⟨by omega, by omega⟩
    have hpos : 0 < (gL g).length := by omega
    have hjl : j < (gL g).length := by omega
    have hs := List.getElem?_eq_getElem hjl
    have hir : 0 ≤ i.toInt ∧ i.toInt < (gL g).length := ⟨by omega, by omega⟩
    refine ms_slot (d := d + 128) (fun k hk e => ⟨fun z => absurd z (by decide), fun _ => ?_⟩) (fun h => ⟨fun _ => hb fun z => h z.2.1, fun z => absurd rfl z⟩)
    refine ms_slot (d := d + 128) (fun l hl2 e2 => ⟨fun _ => ?_, fun z => absurd z (by decide)⟩) (fun h => ⟨fun z => absurd rfl z, fun _ => hb fun z => h z.2.2⟩)
    have hst : isSl t := by rw [e2]; exact nI_sl hl2
    refine ⟨by rw [e]; exact vp_in_nI hk (by decide), ?_⟩
    rw [e, nI_clamp (n := k) (by omega)]
    rcases hV k hk with ⟨v1, v2⟩ | ⟨x, v1, v2, hc, hf, hr⟩
    · rw [v2]
      exact ⟨fun z => absurd rfl z, fun _ => hn hir k hk e hst v1⟩
    rw [v2]
    refine ⟨fun _ => vX11_begin ⟨Or.inl rfl, ?_⟩, fun z => absurd z (by decide)⟩
    generalize hσ1 : wS (wS (wS σ 0 4 (17280 : Int32)) 0 5 (0 : Int32)) 0 7 (0 : Int32) = σ1
    have g1 : wk 17280 0 σ σ1 := by rw [← hσ1]; exact wk_S (wk_S (wk_S wk_rfl (by simp)) (by simp)) (by simp)
    have t4 : gS σ1 0 4 = nI 17280 := by rw [← hσ1, wS_ne (by omega), wS_ne (by omega), wS_at]; rfl
    have t5 : gS σ1 0 5 = nI 0 := by rw [← hσ1, wS_ne (by omega), wS_at]; rfl
    have t7 : gS σ1 0 7 = nI 0 := by rw [← hσ1, wS_at]; rfl
    have p1 : mP σ σ1 := mP_mW (mW_wk g1 (Nat.le_refl _))
    have hV1 : Sm σ1 V := Sm_wk hV g1 (by omega)
    cases g with
    | none => simp [gL] at hjl
    | some p =>
      obtain ⟨hk34, hU, hu⟩ := h
      have hmem := get_mem hs
      have hu1 := uM_mP hU hu p1
      have hv6 := hU.2.1
      have hvn := vn_le p.2
      have hn16 := hU.1
      have hm : (uB p.2).length ≤ 16 := hu.2.2.1.2.1
      have res := h1 p j _ k x l rfl ei hs hk e v1 hl2 e2
      rw [ei]
      have hss : (uG p.2)[j]? = some (gL (some p))[j] := hs
      have hmem2 : (gL (some p))[j] ∈ uG p.2 := hmem
      generalize hsd : (gL (some p))[j] = sb at res hss hmem2
      have hfl := hf.1
      have hvx := vb_lt x hc
      -- what is put, so far
      let θ : Nat → Nat → Tm := fun jj a => if (vb x).testBit a = true then thU p.1 p.2 sb jj a else node 0 a []
      have hθC : ∀ v, v < 22 → Can (θ (vn p.2) v) := fun v hv => by
        show Can (if (vb x).testBit v = true then thU p.1 p.2 sb (vn p.2) v else node 0 v [])
        split
        · exact thU_can hk34 hU hm hmem2 (Nat.le_refl _) hv
        · exact can_v hv
      have hsub : sub (θ (vn p.2)) x = sub (thU p.1 p.2 sb (vn p.2)) x := sub_congr x hc fun a ha => if_pos ha
      -- fits: all that is used fits
      have hfits : fits (sub (θ (vn p.2)) x) → ∀ q, q < vn p.2 → (vb x).testBit (nm (p.2.getD q ([], 0)).1) = true → fits (joinT p.1 (pxs p.2 q sb (uB p.2).length)) := fun hff q hq hbit => by
        have := fits_var hθC x hc hff _ hbit
        rw [show θ (vn p.2) (nm (p.2.getD q ([], 0)).1) = thU p.1 p.2 sb (vn p.2) (nm (p.2.getD q ([], 0)).1) from if_pos hbit, thU_at hU hq (Nat.le_refl _)] at this
        exact this
      have last : ∀ m jj τ T b, jj + m = vn p.2 → mP σ τ → uM p.1 p.2 τ → Sm τ V → gS τ 0 7 = nI 0 → gS τ 0 4 = nI T → 17280 ≤ T → T ≤ 60000 + 16 * jj → gS τ 0 5 = nI b → b ≤ 1 → ((∀ q, q < jj → (vb x).testBit (nm (p.2.getD q ([], 0)).1) = true → fits (joinT p.1 (pxs p.2 q sb (uB p.2).length))) → b = 0 ∧ T ≤ 17280 + 56 * jj) → (b = 0 → ∀ a, a < 22 → ((gA τ 17 a < 0 ∧ θ jj a = node 0 a []) ∨ ∃ q, gA τ 17 a = nI q ∧ seg τ q (θ jj a) ∧ q + (θ jj a).length ≤ T)) → am_X ri am_Lm IX11_unified (d + 131) 85 [some (.ref 0), some (.int (nI j)), some (.int (nI k)), some (.int t), some (.int (nI (vb x))), some (.int (nI jj))] [] τ Q := by
        intro m
        induction m with
        | zero =>
          intro jj τ T b hjj w1 w2 w3 w4 w5 w6 w7 w8 w9 w10 w11
          obtain rfl : jj = vn p.2 := by omega
          refine vX11_unified_85 (pk_le (vn p.2) (vn p.2) (fun _ => ?_) (fun h => by omega) w2.2.1.1 rfl (by omega) (by omega))
          rw [w8, e2]
          rcases Nat.eq_zero_or_pos b with hb0 | hb0
          · subst hb0
            refine ⟨fun _ => ?_, fun z => absurd rfl z⟩
            have hth : thM τ (θ (vn p.2)) T 41 := fun v hv => by
              refine ⟨?_, ?_, w11 rfl v hv⟩
              · show canF 41 (if (vb x).testBit v = true then thU p.1 p.2 sb (vn p.2) v else node 0 v [])
                have : ∀ q, q ≤ vn p.2 → canF 41 (thU p.1 p.2 sb q v) := by
                  intro q
                  induction q with
                  | zero => intro _; exact canF_var hv
                  | succ q ihq =>
                    intro hq
                    simp only [thU]
                    split
                    · exact (join_pts hU hk34 hm (uG_pxs hU hmem2 (by omega))).1
                    · exact ihq (by omega)
                split
                · exact this _ (Nat.le_refl _)
                · exact canF_var hv
              · show (pts (if (vb x).testBit v = true then thU p.1 p.2 sb (vn p.2) v else node 0 v [])).length ≤ 1000
                have pv : (pts (node 0 v [])).length ≤ 1000 := by rw [pts_node (by simp)]; simp
                have : ∀ q, q ≤ vn p.2 → (pts (thU p.1 p.2 sb q v)).length ≤ 1000 := by
                  intro q
                  induction q with
                  | zero => intro _; exact pv
                  | succ q ihq =>
                    intro hq
                    simp only [thU]
                    split
                    · exact (join_pts hU hk34 hm (uG_pxs hU hmem2 (by omega))).2
                    · exact ihq (by omega)
                split
                · exact this _ (Nat.le_refl _)
                · exact pv
            refine m_fill (d := d) (θ := θ (vn p.2)) hk hl2 w3 v1 w8 w4 w5 w6 (by omega) hth (fun hff => ?_) (fun hff τ2 m1 m2 => ?_) (fun hff τ2 m1 m2 => ?_)
            · have := w10 (hfits hff)
              omega
            · rw [hsub] at hff m2 ⊢
              exact (res τ2 (mP_trans w1 (mP_mW m1))).1 hff m2
            · rw [hsub] at hff
              exact (res τ2 (mP_trans w1 (mP_mW m1))).2 hff m2
          · refine ⟨fun z => ?_, fun _ => ?_⟩
            · have := (nx_z (by omega)).mp z
              omega
            · refine (res τ w1).2 (fun hff => ?_) w3
              rw [← hsub] at hff
              have := w10 (hfits hff)
              omega
        | succ m ih =>
          intro jj τ T b hjj w1 w2 w3 w4 w5 w6 w7 w8 w9 w10 w11
          have hjl : jj < p.2.length := by omega
          have hq := List.getElem?_eq_getElem hjl
          have hk0 := (hU.2.2.2.2.1 jj _ hq).mp (by omega)
          have hnm := (hU.2.2.2.2.2 _ (List.getElem_mem hjl) hk0).2
          have e22 := (w2.2.1.2.2 jj _ hq).2.1 (by omega)
          have eU : p.2.getD jj ([], 0) = p.2[jj] := by
            rw [List.getD_eq_getElem?_getD, hq]
            rfl
          have hbit : ((nI (vb x) >>> (nI (nm p.2[jj].1) &&& 31)) &&& (1 : Int32)) = 1 ↔ (vb x).testBit (nm p.2[jj].1) = true := by
            rw [nx_tb (by omega) (by omega), show (1 : Int32) = nI 1 from rfl, nI_eq (by omega) (by omega), tb_iff]
          refine vX11_unified_85 (pk_le (vn p.2) jj (fun h => by omega) (fun _ => ⟨pk_in jj 6 (by omega), ?_⟩) w2.2.1.1 rfl (by omega) (by omega))
          rw [nI_clamp (n := jj) (by omega), e22, hbit, nI_1]
          have θs : ∀ a, θ (jj + 1) a = if (vb x).testBit a = true ∧ a = nm p.2[jj].1 then joinT p.1 (pxs p.2 jj sb (uB p.2).length) else θ jj a := fun a => by
            show (if (vb x).testBit a = true then thU p.1 p.2 sb (jj + 1) a else node 0 a []) = _
            simp only [thU]
            rw [eU]
            by_cases c1 : (vb x).testBit a = true
            · by_cases c2 : a = nm p.2[jj].1
              · rw [if_pos c1, if_pos c2, if_pos ⟨c1, c2⟩]
              · rw [if_pos c1, if_neg c2, if_neg (fun z => c2 z.2)]
                exact (if_pos c1).symm
            · rw [if_neg c1, if_neg (fun z => c1 z.1)]
              exact (if_neg c1).symm
          by_cases hused : (vb x).testBit (nm p.2[jj].1) = true
          · refine ⟨fun z => absurd hused z, fun _ => ⟨pk_in jj 6 (by omega), pk_in j 65536 (by omega), ?_⟩⟩
            rw [nI_clamp (n := j) (by omega), w2.2.2.2.2.2.2 j _ hss, nI_clamp (n := nm p.2[jj].1) (by omega)]
            refine m_putFor (d := d + 86) hk34 hU w2 (by omega) hmem2 w4 (by omega) w5 w6 (by omega) w8 w9 fun v τ2 T' z1 z2 z3 z4 z5 z6 => ⟨pk_in (nm p.2[jj].1) 22 (by omega), ?_⟩
            have q1 : mP σ τ2 := mP_trans w1 (mP_mW (mW_wk z1 w6))
            have q2 : mP σ (wA τ2 17 (nm p.2[jj].1) v) := mP_17 q1
            have q3 : mP τ (wA τ2 17 (nm p.2[jj].1) v) := mP_17 (mP_mW (mW_wk z1 w6))
            have hV3 : Sm (wA τ2 17 (nm p.2[jj].1) v) V := by
              have h3 := Sm_wk w3 z1 (by omega)
              refine mX_Sm (S := []) (A := [17]) (lo := 640) (hi := 640) h3 (mX_wA mX_rfl (by simp) (by omega)) (by decide) (Nat.le_refl _)
            have sg17 : ∀ {q : Nat} {y : Tm}, seg τ2 q y → seg (wA τ2 17 (nm p.2[jj].1) v) q y := fun g => seg_move (fun a h1 h4 i hi => by rw [wA_arr (by omega)]) g
            have nextI : ∀ q, q < jj + 1 → (vb x).testBit (nm (p.2.getD q ([], 0)).1) = true → q = jj ∨ q < jj := fun q hq _ => by omega
            rcases z6 with ⟨b0, y5, ⟨pp, y1, y2, y3⟩, y4⟩ | ⟨y5, y4⟩
            · refine ih (jj + 1) _ T' 0 (by omega) q2 (uM_mP hU w2 q3) hV3 z2 z3 (by omega) (by omega) y5 (by omega) (fun hall => ⟨rfl, ?_⟩) (fun _ a ha => ?_)
              · have a1 := w10 fun q hq hb => hall q (by omega) hb
                have a2 := (hall jj (by omega) (by rw [eU]; exact hused)).1
                omega
              · rw [θs a]
                by_cases c : (vb x).testBit a = true ∧ a = nm p.2[jj].1
                · rw [if_pos c, c.2, wA_at]
                  exact Or.inr ⟨pp, y1, sg17 y2, y3⟩
                · rw [if_neg c, wA_ne (fun z => c ⟨by rw [z.2]; exact hused, z.2⟩), z1.2.1 17 (by decide)]
                  rcases w11 b0 a ha with ⟨c1, c2⟩ | ⟨qq, c1, c2, c3⟩
                  · exact Or.inl ⟨c1, c2⟩
                  · exact Or.inr ⟨qq, c1, sg17 (wk_seg z1 c3 c2), by omega⟩
            · refine ih (jj + 1) _ T' 1 (by omega) q2 (uM_mP hU w2 q3) hV3 z2 z3 (by omega) (by omega) y5 (by omega) (fun hall => ?_) (fun z => absurd z (by omega))
              exfalso
              have a1 := w10 fun q hq hb => hall q (by omega) hb
              have a2 := (hall jj (by omega) (by rw [eU]; exact hused)).1
              omega
          · refine ⟨fun _ => ?_, fun z => absurd z hused⟩
            refine ih (jj + 1) τ T b (by omega) w1 w2 w3 w4 w5 w6 (by omega) w8 w9 (fun hall => ?_) (fun b0 a ha => ?_)
            · have a1 := w10 fun q hq hb => hall q (by omega) hb
              omega
            · rw [θs a, if_neg (fun c => hused (by rw [← c.2]; exact c.1))]
              exact w11 b0 a ha
      have first : ∀ m a τ, a + m = 22 → mX [] [17] 640 640 σ1 τ → (∀ c, c < a → gA τ 17 c = -1) → am_X ri am_Lm IX11_unified (d + 131) 51 [some (.ref 0), some (.int (nI j)), some (.int (nI k)), some (.int t), some (.int (nI a)), none] [] τ Q := by
        intro m
        induction m with
        | zero =>
          intro a τ ha w1 w2
          obtain rfl : a = 22 := by omega
          have q0 : mP σ1 τ := ⟨fun n k _ => w1.1 n k (by simp), fun n hn => by
            by_cases h5 : 5 ≤ n
            · exact w1.2.1 n h5 (fun z => hn (by simp at z ⊢; omega))
            · funext i
              exact w1.2.2.1 n i (by omega) (by omega), fun n a b i _ _ => w1.2.2.1 n i (by omega) (by omega), w1.2.2.2⟩
          have hV2 := mX_Sm hV1 w1 (by decide) (Nat.le_refl _)
          have hr2 : seg τ (40 * k) x := mX_seg w1 (by omega) (wk_seg g1 (by omega) hr)
          refine vX11_unified_51 (pk_le 22 22 (fun _ => ?_) (fun h => by omega))
          rw [m_40b]
          refine m_variablesIn (d := d + 129) (Can_wf hc) (Can_nd x hc) hr2 (by omega) ?_
          refine last (vn p.2) 0 τ 17280 0 (by omega) (mP_trans p1 q0) (uM_mP hU hu1 q0) hV2 (by rw [w1.1 0 7 (by simp)]; exact t7) (by rw [w1.1 0 4 (by simp)]; exact t4) (Nat.le_refl _) (by omega) (by rw [w1.1 0 5 (by simp)]; exact t5) (by omega) (fun _ => ⟨rfl, by omega⟩) (fun _ c hc2 => Or.inl ⟨by rw [w2 c hc2]; decide, ?_⟩)
          show (if (vb x).testBit c = true then thU p.1 p.2 sb 0 c else node 0 c []) = node 0 c []
          simp only [thU]
          split <;> rfl
        | succ m ih =>
          intro a τ ha w1 w2
          refine vX11_unified_51 (pk_le 22 a (fun h => by omega) (fun _ => ⟨pk_in a 22 (by omega), ?_⟩))
          rw [nI_clamp (n := a) (by omega), nI_1]
          refine ih (a + 1) _ (by omega) (mX_wA w1 (by simp) (by omega)) fun c hc2 => ?_
          by_cases ee : c = a
          · subst ee; exact wA_at _ _ _ _
          · rw [wA_ne (by omega)]; exact w2 c (by omega)
      exact first 22 0 σ1 (by omega) mX_rfl fun c hc2 => absurd hc2 (Nat.not_lt_zero _)
  · rw [b01_f hi]
    exact ⟨fun _ => hb fun c => hi ⟨c.1.1, by have := c.1.2; omega⟩, fun z => absurd rfl z⟩
end UD
