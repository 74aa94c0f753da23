/-! ===== the reference: filled, fill ===== -/
section FI
variable {θ : Nat → Tm} {N : Nat}
theorem sub_kd {x : Tm} (hx : Can x) {k : Nat} (hk : k = 3 ∨ k = 4) (hne : kd x ≠ k) (hθ : ∀ v, v < 22 → Can (θ v)) (hp : ∀ v, v < 22 → (pts (θ v)).length ≤ 1000) : (fl1 k (sub θ x)).length ≤ 1000 := by
  have hC := sub_can hθ x hx
  obtain ⟨h1, h2⟩ := Can_kd hx
  obtain ⟨hp1, hp2, hp3⟩ := Can_pts hx
  by_cases e : kd (sub θ x) = k
  · rw [fl1_eq e]
    rw [sub_eq hx] at e ⊢
    by_cases e0 : kd x = 0
    · rw [if_pos e0]
      exact hp _ h2
    · rw [if_neg e0] at e ⊢
      by_cases e1 : kd x = 1
      · rw [if_pos e1] at e
        omega
      · rw [if_neg e1] at e ⊢
        by_cases e2 : kd x = 2
        · rw [if_pos e2, kd_node] at e
          omega
        · rw [if_neg e2] at e ⊢
          exfalso
          have hk2 : kd x = 3 ∨ kd x = 4 := by omega
          have hl : 2 ≤ (pts x).length := by
            rcases hp2 with q | q | q | q
            · omega
            · omega
            · omega
            · exact q.2.2.1
          rw [joinT_two hk2 (fun y hy => by
            obtain ⟨z, hz, ez⟩ := List.mem_map.mp hy
            rw [← ez]
            exact sub_can hθ z (hp3 z hz)) (by simpa using hl), kd_node] at e
          exact hne e
  · rw [fl1_ne e]
    simp
theorem flK_bd {k : Nat} : ∀ {xs : List Tm}, (∀ x ∈ xs, (fl1 k x).length ≤ 1000) → (flK k xs).length ≤ 1000 * xs.length
  | [], _ => by simp [flK]
  | x :: xs, h => by
    have h1 := h x List.mem_cons_self
    have h2 := flK_bd fun y hy => h y (List.mem_cons_of_mem _ hy)
    rw [show flK k (x :: xs) = fl1 k x ++ flK k xs from List.flatMap_cons, List.length_append, List.length_cons]
    omega
theorem sub_canF (hθ : ∀ v, v < 22 → canF N (θ v)) : ∀ n x, canF n x → canF (n + N) (sub θ x)
  | 0, _, h => False.elim h
  | n + 1, x, h => by
    have hx := canF_Can h
    obtain ⟨h1, h2⟩ := Can_kd hx
    obtain ⟨hp1, hp2, hp3⟩ := Can_pts hx
    have hC := sub_can (fun v hv => canF_Can (hθ v hv)) x hx
    have ih : ∀ y ∈ (pts x).map (sub θ), canF (n + N) y := fun y hy => by
      obtain ⟨z, hz, ez⟩ := List.mem_map.mp hy
      rw [← ez]
      exact sub_canF hθ n z (canF_pts h z hz)
    rw [sub_eq hx] at hC ⊢
    by_cases e0 : kd x = 0
    · rw [if_pos e0]
      exact canF_mono (by omega) (hθ _ h2)
    · rw [if_neg e0] at hC ⊢
      by_cases e1 : kd x = 1
      · rw [if_pos e1]
        exact canF_mono (by omega) h
      · rw [if_neg e1] at hC ⊢
        rw [show n + 1 + N = n + N + 1 by omega]
        by_cases e2 : kd x = 2
        · rw [if_pos e2] at hC ⊢
          exact canF_mk (Can_node (fun y hy => Can_wf ⟨_, ih y hy⟩) hC).1 ih
        · rw [if_neg e2]
          have hk2 : kd x = 3 ∨ kd x = 4 := by omega
          refine canF_join hk2 ih (fun z => ?_)
          rcases hp2 with q | q | q | q
          · omega
          · omega
          · omega
          · have := congrArg List.length z
            simp at this
            rw [this] at q
            simp at q
def thM (σ : am_S) (θ : Nat → Tm) (T N : Nat) : Prop := ∀ v, v < 22 → canF N (θ v) ∧ (pts (θ v)).length ≤ 1000 ∧ ((gA σ 17 v < 0 ∧ θ v = node 0 v []) ∨ ∃ q, gA σ 17 v = nI q ∧ seg σ q (θ v) ∧ q + (θ v).length ≤ T)
theorem thM_wk {σ τ : am_S} {T T' lo f : Nat} (h : thM σ θ T N) (g : wk lo f σ τ) (hl : T ≤ lo) (hT : T ≤ T') : thM τ θ T' N := by
  intro v hv
  obtain ⟨h1, h2, h3⟩ := h v hv
  refine ⟨h1, h2, ?_⟩
  rw [g.2.1 17 (by simp)]
  rcases h3 with h3 | ⟨q, q1, q2, q3⟩
  · exact Or.inl h3
  · exact Or.inr ⟨q, q1, wk_seg g (by omega) q2, by omega⟩
theorem fits_sub {k a : Nat} {L : List Tm} (hl : loc k a L) (hc : ∀ y ∈ L, Can y) (hθ : ∀ v, v < 22 → Can (θ v)) (hk : k ≠ 0) (hf : fits (sub θ (node k a L))) : ∀ y ∈ L, fits (sub θ y) := by
  have hx := Can_mk hl hc
  have hp : pts (node k a L) = L := pts_node fun y hy => Can_wf (hc y hy)
  rw [sub_eq hx, kd_node, nm_node, hp, if_neg hk] at hf
  intro y hy
  have hm : sub θ y ∈ L.map (sub θ) := List.mem_map.mpr ⟨y, hy, rfl⟩
  rcases hl with ⟨h1, h2⟩ | ⟨h1, h2⟩ | ⟨h1, h2⟩ | ⟨h1, h2⟩
  · exact absurd h1 hk
  · rw [h2.2] at hy
    simp at hy
  · rw [if_neg (by omega), if_pos h1] at hf
    exact fits_part hf _ hm
  · rw [if_neg (by omega), if_neg (by omega)] at hf
    refine fits_join h1 (fun z hz => ?_) hf _ hm
    obtain ⟨w, hw, ew⟩ := List.mem_map.mp hz
    rw [← ew]
    exact sub_can hθ w (hc w hw)
theorem m_filled : ∀ (n : Nat) (x : Tm), canF n x → ∀ (p f T b d : Nat) (σ : am_S) (Q : Int32 → am_S → Prop), fits x → seg σ p x → p + x.length ≤ T → b ≤ 1 → gS σ 0 5 = nI b → gS σ 0 7 = nI f → gS σ 0 4 = nI T → T ≤ 61000 → f + x.length ≤ 1000 → thM σ θ T N → (∀ v τ T', wk T f σ τ → gS τ 0 7 = nI f → gS τ 0 4 = nI T' → T ≤ T' → T' ≤ 61000 → ((gS τ 0 5 = nI 0 ∧ b = 0 ∧ ∃ q, v = nI q ∧ seg τ q (sub θ x) ∧ q + (sub θ x).length ≤ T') ∨ gS τ 0 5 = nI 1) → (b = 0 → fits (sub θ x) → T + 40 * x.length ≤ 60000 → gS τ 0 5 = nI 0 ∧ T' ≤ T + 40 * x.length) → Q v τ) → am_K ri am_Lm IX11_filled (d + 2 * n + N + 4) [.ref 0, .int (nI p)] σ Q := by
  intro n
  induction n with
  | zero => exact fun x h => False.elim h
  | succ n IH =>
    intro x hx p f T b d σ Q hf hs hp hb hb5 h7 h4 hT hfx hθ H
    have hC := canF_Can hx
    have hw := Can_wf hC
    have hpos := wf_pos hw
    obtain ⟨hk4, hn22⟩ := Can_kd hC
    obtain ⟨ex, hloc, hpC⟩ := Can_pts hC
    obtain ⟨hpw, _, hxl⟩ := wf_pts hw
    obtain ⟨s1, s2, s3, s4⟩ := seg_kd hw hs
    have hf8 := (fits_pts hC hf).1
    have hff := (fits_pts hC hf).2
    have hf40 := hf.1
    have hin : vp_in (nI p) 70000 := vp_in_nI (by omega) (by decide)
    have hθC : ∀ v, v < 22 → Can (θ v) := fun v hv => canF_Can (hθ v hv).1
    rw [show d + 2 * (n + 1) + N + 4 = (d + 2 * n + N + 5) + 1 by omega]
    refine vX11_filled ?_
    rw [hb5]
    refine pk_eq b 0 (fun e => ⟨hin, ?_⟩) (fun e => H _ σ T wk_rfl h7 h4 (Nat.le_refl _) hT (Or.inr (by rw [hb5, show b = 1 by omega])) (fun z => absurd z e))
    subst e
    rw [nI_clamp (n := p) (by omega), s1, s2, s3]
    have self : sub θ x = x → Q (nI p) σ := fun e => H _ σ T wk_rfl h7 h4 (Nat.le_refl _) hT (Or.inl ⟨hb5, rfl, p, rfl, by rw [e]; exact hs, by rw [e]; exact hp⟩) (fun _ _ _ => ⟨hb5, by omega⟩)
    have e69 : kd x ≠ 0 → kd x ≠ 1 → am_X ri am_Lm IX11_filled (d + 2 * n + N + 5 + 1) 69 [some (.ref 0), some (.int (nI p)), some (.int (gS σ 0 7)), some (.int (nI p + (1 : Int32))), some (.int (0 : Int32))] [] σ Q := by
      intro k0 k1
      have hL1 : 1 ≤ (pts x).length := by
        rcases hloc with q | q | q | q <;> omega
      have hfit : fits (sub θ x) → ∀ y ∈ pts x, fits (sub θ y) := fun z => by
        rw [ex] at z
        exact fits_sub hloc hpC hθC k0 z
      have loop : ∀ m i τ Ti bi, i + m = (pts x).length → bi ≤ 1 → wk T f σ τ → gS τ 0 5 = nI bi → gS τ 0 7 = nI (f + i) → gS τ 0 4 = nI Ti → T ≤ Ti → Ti ≤ 61000 → (bi = 0 → ent τ 0 f Ti (n + N) (((pts x).take i).map (sub θ))) → (fits (sub θ x) → T + 40 * x.length ≤ 60000 → bi = 0 ∧ Ti ≤ T + 40 * off (pts x) i) → am_X ri am_Lm IX11_filled (d + 2 * n + N + 5 + 1) 69 [some (.ref 0), some (.int (nI p)), some (.int (nI f)), some (.int (nI (p + 1 + off (pts x) i))), some (.int (nI i))] [] τ Q := by
        intro m
        induction m with
        | zero =>
          intro i τ Ti bi hi hbi g1 g5 g7 g4 gT gT2 ge gf
          have ei : i = (pts x).length := by omega
          subst ei
          have hs2 := wk_seg g1 hp hs
          obtain ⟨t1, t2, t3, t4⟩ := seg_kd hw hs2
          have eo : off (pts x) (pts x).length = (pts x).flatten.length := by unfold off; rw [List.take_length]
          rw [List.take_length] at ge
          refine vX11_filled_69 ⟨hin, ?_⟩
          rw [nI_clamp (n := p) (by omega), t1, t2, t3, g5]
          refine pk_le (pts x).length (pts x).length (fun _ => ?_) (fun h => by omega)
          refine pk_eq bi 0 (fun e => ⟨hin, ?_⟩) (fun e => ?_)
          · subst e
            have hent := ge rfl
            have hml : ((pts x).map (sub θ)).length = (pts x).length := by simp
            refine And.symm (pk_eq (kd x) 2 (fun e2 => ⟨hin, ?_⟩) (fun e2 => ⟨hin, ?_⟩))
            · have es : sub θ x = node 2 (nm x) ((pts x).map (sub θ)) := by rw [sub_eq hC, if_neg k0, if_neg k1, if_pos e2]
              rw [show d + 2 * n + N + 5 = (d + 2 * n + N + 3) + 2 by omega]
              refine m_made (lo := 0) (k := 2) (a := nm x) (L := (pts x).map (sub θ)) (T := Ti) (b := 0) hent (by omega) (by rw [hml]; exact g7) g4 gT2 g5 (by omega) (fun v υ j1 j2 j3 => ?_)
              rw [← es] at j3
              have w1 : wk T f σ υ := wk_trans g1 (wk_mono j1 gT (Nat.le_refl _))
              rcases j3 with ⟨_, j4, j5, j6, rfl, j7⟩ | ⟨j4, j5, j6⟩
              · exact H _ υ _ w1 j2 j6 (by omega) (by omega) (Or.inl ⟨j5, rfl, Ti, rfl, j7, Nat.le_refl _⟩) (fun _ z1 z2 => ⟨j5, by have := (gf z1 z2).2; have := z1.1; omega⟩)
              · refine H _ υ Ti w1 j2 j6 gT gT2 (Or.inr j5) (fun _ z1 z2 => ?_)
                exfalso
                have := (gf z1 z2).2
                have := z1.1
                omega
            · have hk2 : kd x = 3 ∨ kd x = 4 := by omega
              have es : sub θ x = joinT (kd x) ((pts x).map (sub θ)) := by rw [sub_eq hC, if_neg k0, if_neg k1, if_neg e2]
              have hne : (pts x).map (sub θ) ≠ [] := fun z => by
                have := congrArg List.length z
                simp at this
                rw [this] at hL1
                simp at hL1
              have hbd := flK_bd (k := kd x) (xs := (pts x).map (sub θ)) (fun y hy => by
                obtain ⟨z, hz, ez⟩ := List.mem_map.mp hy
                rw [← ez]
                refine sub_kd (hpC z hz) hk2 ?_ hθC (fun v hv => (hθ v hv).2.1)
                rcases hloc with q | q | q | q
                · omega
                · omega
                · omega
                · exact q.2.2.2.2 z hz)
              rw [show d + 2 * n + N + 5 = (d + n + 2) + (n + N) + 3 by omega]
              refine m_joined (lo := 0) (k := kd x) (T := Ti) (b := 0) hk2 hne hent (by omega) (by rw [hml]; exact g7) g4 gT2 (by omega) g5 (by omega) (fun v υ j1 j2 j3 => ?_)
              rw [← es] at j3
              have w1 : wk T f σ υ := wk_trans g1 (wk_mono j1 gT (Nat.le_refl _))
              rcases j3 with ⟨_, j4, T2, q, j5, j6, j7, j8, rfl, j9, j10⟩ | ⟨j4, j5, j6⟩
              · exact H _ υ T2 w1 j2 j5 (by omega) (by omega) (Or.inl ⟨j4, rfl, q, rfl, j9, j10.1⟩) (fun _ z1 z2 => ⟨j4, by have := (gf z1 z2).2; have := z1.1; omega⟩)
              · refine H _ υ Ti w1 j2 j6 gT gT2 (Or.inr j5) (fun _ z1 z2 => ?_)
                exfalso
                have := (gf z1 z2).2
                have := z1.1
                omega
          · have e1 : bi = 1 := by omega
            subst e1
            refine H _ _ Ti (wk_S g1 (by simp)) (wS_at _ _ _ _) (by rw [wS_ne (by omega)]; exact g4) gT gT2 (Or.inr (by rw [wS_ne (by omega)]; exact g5)) (fun _ z1 z2 => absurd (gf z1 z2).1 (by omega))
        | succ m ih =>
          intro i τ Ti bi hi hbi g1 g5 g7 g4 gT gT2 ge gf
          have hiL : i < (pts x).length := by omega
          have hmem := List.getElem_mem hiL
          have hs2 := wk_seg g1 hp hs
          obtain ⟨t1, t2, t3, t4⟩ := seg_kd hw hs2
          have hsi := seg_pts hw hs2 i _ (List.getElem?_eq_getElem hiL)
          have o1 := off_s hiL
          have o2 := off_le (pts x) (i + 1)
          have hfg := flat_get hpw hiL
          have hwi := wf_pos (hpw _ hmem)
          refine vX11_filled_69 ⟨hin, ?_⟩
          rw [nI_clamp (n := p) (by omega), t3]
          refine pk_le (pts x).length i (fun h => by omega) (fun _ => ?_)
          rw [show d + 2 * n + N + 5 = (d + 1) + 2 * n + N + 4 by omega]
          refine IH (pts x)[i] (canF_pts hx _ hmem) (p + 1 + off (pts x) i) (f + i) Ti bi (d + 1) τ _ (hff _ hmem) hsi (by omega) hbi g5 g7 g4 gT2 (by omega) (thM_wk hθ g1 (Nat.le_refl _) gT) (fun v υ T' w1 w7 w4 wT wT2 wr wf => ?_)
          have w2 : wk T f σ υ := wk_trans g1 (wk_mono w1 gT (by omega))
          obtain ⟨b2, hb2, e5⟩ : ∃ b2, b2 ≤ 1 ∧ gS υ 0 5 = nI b2 := by
            rcases wr with ⟨q, _⟩ | q
            · exact ⟨0, by omega, q⟩
            · exact ⟨1, by omega, q⟩
          have hput := m_put (d := d + 1 + 2 * n + N + 3) (σ := υ) (v := v) w7 (by omega) (Q := fun _ σ4 => (vp_in (nI (p + 1 + off (pts x) i)) 70000) ∧ am_X ri am_Lm IX11_filled (d + 1 + 2 * n + N + 4 + 1) 69 [some (.ref 0), some (.int (nI p)), some (.int (nI f)), some (.int (nI (p + 1 + off (pts x) i) + (gA σ4 4 (nI (p + 1 + off (pts x) i)).toNatClampNeg))), some (.int (nI i + (1 : Int32)))] [] σ4 Q) ?_
          · exact hput
          · refine ⟨vp_in_nI (by omega) (by decide), ?_⟩
            generalize hσ1 : wS (wA υ 5 (f + i) v) 0 7 (nI (f + i + 1)) = σ1
            have w3 : wk T f σ σ1 := by rw [← hσ1]; exact wk_S (wk_5 w2 (by omega)) (by simp)
            have hs3 := seg_pts hw (wk_seg w3 hp hs) i _ (List.getElem?_eq_getElem hiL)
            rw [nI_clamp (n := p + 1 + off (pts x) i) (by omega), (seg_kd (hpw _ hmem) hs3).2.2.2, nI_add, nI_1, show p + 1 + off (pts x) i + (pts x)[i].length = p + 1 + off (pts x) (i + 1) by omega, show d + 1 + 2 * n + N + 4 = d + 2 * n + N + 5 by omega]
            have e5' : gS σ1 0 5 = nI b2 := by rw [← hσ1, wS_ne (by omega), gS_wA]; exact e5
            refine ih (i + 1) σ1 T' b2 (by omega) hb2 w3 e5' (by rw [← hσ1, wS_at]; rfl) (by rw [← hσ1, wS_ne (by omega), gS_wA]; exact w4) (by omega) wT2 (fun hz => ?_) (fun z1 z2 => ?_)
            · subst hz
              rcases wr with ⟨_, hbi0, q, rfl, q2, q3⟩ | q
              · have hent := ge hbi0
                have w9 : wk T' (f + i) υ σ1 := by rw [← hσ1]; exact wk_S (wk_5 wk_rfl (Nat.le_refl _)) (by simp)
                have hml : (((pts x).take i).map (sub θ)).length = i := by simp; omega
                intro j z hz
                rw [take_snoc hiL, List.map_append] at hz
                rcases Nat.lt_or_ge j i with hj | hj
                · rw [List.getElem?_append_left (by omega)] at hz
                  obtain ⟨r, r1, r2, r3, r4⟩ := ent_wk (ent_wk hent w1 (Nat.le_refl _) (by omega)) w9 wT (by omega) j z hz
                  exact ⟨r, r1, r2, r3, by omega⟩
                · rw [List.getElem?_append_right (by omega), hml] at hz
                  have hj2 := get_lt hz
                  simp at hj2
                  have : j = i := by omega
                  subst this
                  simp at hz
                  subst hz
                  refine ⟨q, by rw [← hσ1, gA_wS]; exact wA_at _ _ _ _, sub_canF (fun v hv => (hθ v hv).1) n _ (canF_pts hx _ hmem), wk_seg w9 q3 q2, q3, Nat.zero_le _⟩
              · rw [e5] at q
                exact absurd ((nI_eq (by omega) (by omega)).mp q) (by omega)
            · obtain ⟨f1, f2⟩ := gf z1 z2
              obtain ⟨f3, f4⟩ := wf f1 (hfit z1 _ hmem) (by omega)
              rw [e5] at f3
              exact ⟨(nI_eq (by omega) (by omega)).mp f3, by omega⟩
      rw [h7, nI_1]
      have := loop (pts x).length 0 σ T 0 (by omega) (by omega) wk_rfl hb5 h7 h4 (Nat.le_refl _) hT (fun _ i y hy => by simp at hy) (fun _ _ => ⟨rfl, by rw [off_0]; omega⟩)
      rw [off_0] at this
      exact this
    have p0 : kd x = 0 ∨ kd x = 1 → (pts x).length = 0 := fun h => by
      rcases hloc with q | q | q | q
      · rw [q.2.2]; rfl
      · rw [q.2.2]; rfl
      · omega
      · omega
    refine And.symm (pk_eq (kd x) 0 (fun e => ⟨hin, vp_in_nI (by omega) (by decide), ?_⟩) (fun e => ⟨hin, And.symm (pk_eq (pts x).length 0 (fun e2 => ?_) (fun e2 => e69 e (fun z => e2 (p0 (Or.inr z)))))⟩))
    · obtain ⟨c1, c2, c3⟩ := hθ (nm x) hn22
      rw [nI_clamp (n := nm x) (by omega)]
      have es : sub θ x = θ (nm x) := by rw [sub_eq hC, if_pos e]
      have exn : x = node 0 (nm x) [] := by
        have h0 := p0 (Or.inl e)
        have h1 := List.length_eq_zero_iff.mp h0
        rw [e, h1] at ex
        exact ex
      rcases c3 with ⟨c3, c4⟩ | ⟨q, c3, c4, c5⟩
      · refine ⟨fun _ => ⟨hin, And.symm (pk_eq (pts x).length 0 (fun _ => self (by rw [es, c4]; exact exn.symm)) (fun z => absurd (p0 (Or.inl e)) z))⟩, fun z => absurd c3 z⟩
      · have hqw := wf_pos (Can_wf (hθC (nm x) hn22))
        rw [c3]
        refine ⟨fun z => absurd z (nI_pos (by omega)), fun _ => ⟨hin, vp_in_nI (by omega) (by decide), ?_⟩⟩
        exact H _ σ T wk_rfl h7 h4 (Nat.le_refl _) hT (Or.inl ⟨hb5, rfl, q, rfl, by rw [es]; exact c4, by rw [es]; exact c5⟩) (fun _ _ _ => ⟨hb5, by omega⟩)
    · refine self ?_
      have e1 : kd x = 1 := by
        rcases hloc with q | q | q | q <;> omega
      rw [sub_eq hC, if_neg e, if_pos e1]
/-- fill: into a slot -/
theorem m_fill {σ : am_S} {V : Sv} {x : Tm} {k l T d : Nat} {Q : Int32 → am_S → Prop} (hk : k < 16) (hl : l < 16) (hV : Sm σ V) (hx : V k = some x) (h5 : gS σ 0 5 = nI 0) (h7 : gS σ 0 7 = nI 0) (h4 : gS σ 0 4 = nI T) (hT1 : 17280 ≤ T) (hT : T ≤ 61000) (hθ : thM σ θ T 41) (hfT : fits (sub θ x) → T + 1600 ≤ 60000) (h1 : fits (sub θ x) → ∀ τ, mW σ τ → Sm τ (uV V l (sub θ x)) → Q (nI (sub θ x).length) τ) (h0 : ¬ fits (sub θ x) → ∀ τ, mW σ τ → Sm τ V → Q (-4) τ) : am_K ri am_Lm IX11_fill (d + 130) [.ref 0, .int (nI k), .int (nI l)] σ Q := by
  obtain ⟨hc, hf, hr⟩ : Can x ∧ fits x ∧ seg σ (40 * k) x := by
    rcases hV k hk with ⟨v1, _⟩ | ⟨y, v1, v2, hc, hf, hr⟩
    · rw [v1] at hx; cases hx
    · rw [v1] at hx
      have e := Option.some.inj hx
      rw [← e]
      exact ⟨hc, hf, hr⟩
  have hf40 := hf.1
  have hθC : ∀ v, v < 22 → Can (θ v) := fun v hv => canF_Can (hθ v hv).1
  have hC := sub_can hθC x hc
  refine vX11_fill ?_
  rw [m_40, show d + 129 = (d + 4) + 2 * 40 + 41 + 4 by omega]
  refine m_filled (θ := θ) (N := 41) 40 x (canF_mono hf40 (canF_len x hc)) (40 * k) 0 T 0 (d + 4) σ _ hf hr (by omega) (by omega) h5 h7 h4 hT (by omega) hθ (fun v τ T' w1 w7 w4 wT wT2 wr wf => ?_)
  have hmw : mW σ τ := mW_wk w1 hT1
  have hV2 : Sm τ V := Sm_wk hV w1 (by omega)
  rcases wr with ⟨e5, _, q, rfl, q2, q3⟩ | e5
  · rw [e5]
    refine ⟨fun z => absurd rfl z, fun _ => ?_⟩
    rw [show d + 4 + 2 * 40 + 41 + 4 = (d + 128) + 1 by omega]
    refine m_fits (p := q) (b := 0) (Can_wf hC) e5 (by omega) (fun _ => ⟨rfl, by omega, q2⟩) (fun _ hff => ⟨fun _ => ?_, fun z => absurd z (by decide)⟩) (fun hn => ⟨fun z => absurd rfl z, fun _ => h0 (hn rfl) τ hmw hV2⟩)
    have hl40 := hff.1
    refine m_copy (d := d + 128) (q := 69900) (Can_wf hC) q2 (by omega) (by omega) (Or.inl (by omega)) (fun υ c1 c2 => ?_)
    have c3 : wk 69900 0 τ υ := cw_wk c1
    rw [show d + 128 + 1 = (d + 127) + 2 by omega]
    refine m_store (b := 0) (v := nI 69900) hl (Can_wf hC) (by rw [c1.1]; exact e5) (by omega) (fun _ => ⟨69900, rfl, by omega, by omega, c2⟩) (fun _ _ ω hst => ?_) (fun z => absurd hff (z rfl))
    exact h1 hff ω (mW_trans (mW_trans hmw (mW_wk c3 (by omega))) (mW_sto hst hl hl40)) (Sm_sto (Sm_wk hV2 c3 (by omega)) hst hC hff)
  · rw [e5]
    refine ⟨fun _ => h0 (fun z => ?_) τ hmw hV2, fun z => absurd z (by decide)⟩
    have := (wf rfl z (by have := hfT z; omega)).1
    rw [e5] at this
    exact absurd ((nI_eq (by omega) (by omega)).mp this) (by omega)
end FI
