/-! ===== class Unifying: put, fill ===== -/
noncomputable def pTm (U : List (Tm × Int)) (b : Nat) : Tm := if 0 ≤ grB (uB U) (vn U) U.length b then (U.getD (grB (uB U) (vn U) U.length b).toNat ([], 0)).1 else node 0 (6 + b) []
noncomputable def pcn (U : List (Tm × Int)) (j s b : Nat) : Nat := if s.testBit b then ((uB U).getD b []).getD j 0 else 0
noncomputable def pxs (U : List (Tm × Int)) (j s : Nat) : Nat → List Tm
  | 0 => []
  | b + 1 => pxs U j s b ++ List.replicate (pcn U j s b) (pTm U b)
noncomputable def thU (k : Nat) (U : List (Tm × Int)) (s : Nat) : Nat → Nat → Tm
  | 0, a => node 0 a []
  | j + 1, a => if a = nm (U.getD j ([], 0)).1 then joinT k (pxs U j s (uB U).length) else thU k U s j a
section FL
variable {σ τ : am_S} {U : List (Tm × Int)} {k : Nat}
theorem uX_gw {S : List (Nat × Nat)} {A J P : List Nat} {c s : Nat} (h : uX k U σ) (g : gw S A J P c s σ τ) (h1 : ∀ x ∈ S, x.1 ≠ 35 ∧ x.1 ≠ 36) (h2 : ∀ x ∈ A, x ≠ 42 ∧ x ≠ 44 ∧ x ≠ 45 ∧ x ≠ 46) (h3 : 43 ∉ P) : uX k U τ := by
  obtain ⟨a1, a2, a3, a4, a5, a6, a7, a8, a9⟩ := h
  have n35 : ∀ j, (35, j) ∉ S := fun j z => (h1 _ z).1 rfl
  have n36 : ∀ j, (36, j) ∉ S := fun j z => (h1 _ z).2 rfl
  refine ⟨by rw [gw_S g (by omega) (n35 _)]; exact a1, un_ext a2 g (n35 _) (n35 _) h3 (fun z => (h2 _ z).2.1 rfl), by rw [gw_S g (by omega) (n36 _)]; exact a3, by rw [gw_S g (by omega) (n36 _)]; exact a4, a5, fs36_gw a6 g (n36 _) (fun z => (h2 _ z).1 rfl), ⟨by rw [gw_S g (by omega) (n36 _)]; exact a7.1, a7.2.1, by rw [gw_S g (by omega) (n35 _)]; exact a7.2.2.1, by rw [gw_S g (by omega) (n35 _)]; exact a7.2.2.2.1, a7.2.2.2.2.1, a7.2.2.2.2.2.1, a7.2.2.2.2.2.2.1, fun b hb => ?_⟩, by rw [gw_S g (by omega) (n35 _)]; exact a8, by rw [gw_S g (by omega) (n35 _)]; exact a9⟩
  rw [gw_A g (fun z => (h2 _ z).2.2.1 rfl), gw_A g (fun z => (h2 _ z).2.2.2 rfl)]
  exact a7.2.2.2.2.2.2.2 b hb
theorem pTm_ok (hU : okU k U) (hk : k = 3 ∨ k = 4) {b : Nat} (hb : b < 16) : Can (pTm U b) ∧ fits (pTm U b) ∧ kd (pTm U b) ≠ k := by
  unfold pTm
  have hgr := grf_or ((uB U).getD b []) (vn U) (U.length - vn U)
  have := vn_le U
  by_cases h : 0 ≤ grB (uB U) (vn U) U.length b
  · rw [if_pos h]
    rcases hgr with e | e | ⟨g, e, e1, e2⟩
    · rw [show grB (uB U) (vn U) U.length b = -2 from e] at h; omega
    · rw [show grB (uB U) (vn U) U.length b = -1 from e] at h; omega
    · rw [show grB (uB U) (vn U) U.length b = g from e, Int.toNat_natCast, List.getD_eq_getElem?_getD, List.getElem?_eq_getElem (by omega)]
      have := hU.2.2.1 _ (List.getElem_mem (l := U) (n := g) (by omega))
      exact ⟨this.1, this.2.1, this.2.2.1⟩
  · rw [if_neg h]
    exact ⟨can_v (by omega), fits_1 _ _, by rw [kd_node]; omega⟩
theorem pxs_ok (hU : okU k U) (hk : k = 3 ∨ k = 4) {j s : Nat} : ∀ {m : Nat}, m ≤ 16 → ∀ z ∈ pxs U j s m, Can z ∧ fits z ∧ kd z ≠ k
  | 0, _, z, hz => by simp [pxs] at hz
  | b + 1, hm, z, hz => by
    simp only [pxs] at hz
    rcases List.mem_append.mp hz with h | h
    · exact pxs_ok hU hk (by omega) z h
    · rw [List.eq_of_mem_replicate h]
      exact pTm_ok hU hk (by omega)
theorem join_take {o : Option Nat} {xs : List Tm} (hk : k = 3 ∨ k = 4) (hx : xs ≠ []) (h : ∀ z ∈ xs, Can z ∧ fits z ∧ kd z ≠ k) (hr : Ro τ o (joinT k (xs.take 9))) : Ro τ o (joinT k xs) := by
  rcases Nat.lt_or_ge 9 xs.length with hl | hl
  · have no : ∀ {ys : List Tm}, 9 ≤ ys.length → (∀ z ∈ ys, Can z ∧ kd z ≠ k) → ¬ fits (joinT k ys) := fun {ys} h9 hy hf => by
      rw [joinT_two hk (fun z hz => (hy z hz).1) (by omega), flK_self (fun z hz => (hy z hz).2), fits_node, srt_len] at hf
      omega
    have n1 := no (ys := xs.take 9) (by simp; omega) (fun z hz => ⟨(h z (List.mem_of_mem_take hz)).1, (h z (List.mem_of_mem_take hz)).2.2⟩)
    have n2 := no (ys := xs) (by omega) (fun z hz => ⟨(h z hz).1, (h z hz).2.2⟩)
    refine ⟨Can_join hk (fun z hz => (h z hz).1) hx, Or.inr ⟨n2, ?_⟩⟩
    rcases hr.2 with ⟨f, _⟩ | ⟨_, e⟩
    · exact absurd f n1
    · exact e
  · rw [List.take_of_length_le hl] at hr
    exact hr
theorem x_put {j s d : Nat} {Q : Option Nat → am_S → Prop} (hk : k = 3 ∨ k = 4) (hU : okU k U) (hu : uX k U σ) (hl : lts σ) (h3 : gS σ 3 3 = nI 0) (hb : bud 2 13 σ) (hj : j < U.length) (hs : s < 2 ^ 16) (hne : pxs U j s (uB U).length ≠ []) (H : ∀ o τ, gw [(3, 3)] [] [] [5, 6] 2 13 σ τ → gS τ 3 3 = nI 0 → Ro τ o (joinT k (pxs U j s (uB U).length)) → Q o τ) : am_K rn am_Lx IX9_put (d + 44) [.ref 35, .int (nI j), .int (nI s), .ref 3] σ Q := by
  have hm := hu.2.2.2.2.1
  have hn := hU.1
  have hvn := vn_le U
  have hsm : ∀ b, b < (uB U).length → ((uB U).getD b []).getD j 0 ≤ 16 := fun b hb => by
    have hmem : (uB U).getD b [] ∈ uB U := by
      rw [List.getD_eq_getElem?_getD, List.getElem?_eq_getElem hb]
      exact List.getElem_mem hb
    have h1 := (sols_sm hmem).1
    have h2 := (uS_bd hU).1
    have h3 := big_sm ((uB U).getD b []) j
    omega
  -- the state while terms are pushed
  have out : ∀ q b τ, b + q = (uB U).length → gw [(3, 3)] [] [] [5, 6] 0 0 σ τ → gS τ 3 3 = nI ((pxs U j s b).take 9).length → (∀ i y, ((pxs U j s b).take 9)[i]? = some y → Ro τ (gP τ 5 i) y) → am_X rn am_Lx IX9_put (d + 44) 13 [some (.ref 35), some (.int (nI j)), some (.int (nI s)), some (.ref 3), some (.int (nI 0)), some (.int (nI (9 - (pxs U j s b).length))), some (.int (nI b)), none, none] [] τ Q := by
    intro q
    induction q with
    | zero =>
      intro b τ hb2 g1 g2 g3
      obtain rfl : b = (uB U).length := by omega
      have ut := uX_gw hu g1 (by decide) (by decide) (by decide)
      refine vX9_put_13 (pk_le (uB U).length (uB U).length (fun _ => ?_) (fun h => by omega) ut.2.2.2.2.2.1.1 rfl (by omega) (by omega))
      rw [ut.1]
      have hlen : ((pxs U j s (uB U).length).take 9).length ≤ 9 := by simp; omega
      refine x_together (d := d) (mk := 0) (xs := (pxs U j s (uB U).length).take 9) hk (fun e => hne ?_) (by omega) (by rw [Nat.zero_add]; exact g2) (fun i y hy => by rw [Nat.zero_add]; exact g3 i y hy) (bud_gw (c := 0) (s := 0) (by rw [Nat.zero_add, Nat.zero_add]; exact hb) g1) fun o τ2 k1 k2 k3 => ?_
      · rcases List.take_eq_nil_iff.mp e with h | h
        · omega
        · exact h
      · have g4 : gw [(3, 3)] [] [] [5, 6] 2 13 σ τ2 := by
          have := gw_trans g1 (gw_mono (S' := [(3, 3)]) (A' := []) (J' := []) (P' := [5, 6]) (c' := 2) (s' := 13) k1 (by decide) (by decide) (by decide) (by decide) (Nat.le_refl _) (Nat.le_refl _))
          exact this
        have fin := H o τ2 g4 k2 (join_take hk hne (pxs_ok hU hk hm) k3)
        exact ⟨fun e => by rw [e] at fin; exact fin, fun t e => by rw [e] at fin; exact fin⟩
    | succ q ih =>
      intro b τ hb2 g1 g2 g3
      have ut := uX_gw hu g1 (by decide) (by decide) (by decide)
      have hbm : b < (uB U).length := by omega
      have hpt := pTm_ok hU hk (b := b) (by omega)
      have hc := hsm b hbm
      -- the terms of one base
      have inn : ∀ c, c = pcn U j s b → ∀ p i υ, i + p = c → gw [(3, 3)] [] [] [5, 6] 0 0 σ υ → gS υ 3 3 = nI ((pxs U j s b ++ List.replicate i (pTm U b)).take 9).length → (∀ a y, ((pxs U j s b ++ List.replicate i (pTm U b)).take 9)[a]? = some y → Ro υ (gP υ 5 a) y) → am_X rn am_Lx IX9_put (d + 44) 53 [some (.ref 35), some (.int (nI j)), some (.int (nI s)), some (.ref 3), some (.int (nI 0)), some (.int (nI (9 - (pxs U j s b ++ List.replicate i (pTm U b)).length))), some (.int (nI b)), some (.int (nI c)), some (.int (nI i))] [] υ Q := by
        intro c hcd p
        have hc16 : c ≤ 16 := by
          rw [hcd]
          unfold pcn
          split <;> omega
        induction p with
        | zero =>
          intro i υ hi k1 k2 k3
          obtain rfl : i = c := by omega
          refine vX9_put_53 (pk_le i i (fun _ => ?_) (fun h => by omega))
          rw [nI_1]
          subst hcd
          exact ih (b + 1) υ (by omega) k1 k2 k3
        | succ p ihp =>
          intro i υ hi k1 k2 k3
          have uu := uX_gw hu k1 (by decide) (by decide) (by decide)
          refine vX9_put_53 (pk_le c i (fun h => by omega) (fun _ => ?_))
          have hpre : pxs U j s (b + 1) = (pxs U j s b ++ List.replicate i (pTm U b)) ++ List.replicate (p + 1) (pTm U b) := by
            simp only [pxs]
            rw [← hcd, ← hi, List.append_assoc, List.replicate_append_replicate]
          refine pk_le (9 - (pxs U j s b ++ List.replicate i (pTm U b)).length) 0 (fun h => ?_) (fun h => ?_)
          · -- no room is left
            rw [nI_1]
            have ht : (pxs U j s (b + 1)).take 9 = (pxs U j s b ++ List.replicate i (pTm U b)).take 9 := by
              rw [hpre, List.take_append_of_le_length (by omega)]
            have e9 : 9 - (pxs U j s b ++ List.replicate i (pTm U b)).length = 9 - (pxs U j s (b + 1)).length := by
              rw [hpre]
              simp only [List.length_append]
              simp only [List.length_append] at h
              omega
            rw [e9]
            refine ih (b + 1) υ (by omega) k1 ?_ ?_
            · rw [ht]; exact k2
            · rw [ht]; exact k3
          · have hlt : (pxs U j s b ++ List.replicate i (pTm U b)).length < 9 := by omega
            have e1 : pxs U j s b ++ List.replicate (i + 1) (pTm U b) = (pxs U j s b ++ List.replicate i (pTm U b)) ++ [pTm U b] := by
              rw [List.append_assoc, List.replicate_succ']
            have nx := ihp (i + 1)
            rw [e1, List.length_append, List.length_singleton, List.take_of_length_le (l := (pxs U j s b ++ List.replicate i (pTm U b)) ++ [pTm U b]) (by rw [List.length_append, List.length_singleton]; omega)] at nx
            rw [List.take_of_length_le (by omega)] at k2 k3
            generalize hZ : pxs U j s b ++ List.replicate i (pTm U b) = Z at k2 k3 nx hlt ⊢
            rw [List.length_append, List.length_singleton] at nx
            have e9 : nI (9 - Z.length) + (-1 : Int32) = nI (9 - (Z.length + 1)) := by
              rw [show 9 - Z.length = (9 - (Z.length + 1)) + 1 by omega, pk_m1]
            rw [e9, nI_1, nI_clamp (n := b) (by omega)]
            obtain ⟨c1, c2, c3, c4⟩ := uu.2.2.2.2.2.2.1.2.2.2.2.2.2.2 b hbm
            have push : ∀ o, Ro υ o (pTm U b) → (o = none → am_K ru am_Lx IX2_push (d + 43) [.ref 3, .null] υ (fun _ σ2 => am_X rn am_Lx IX9_put (d + 44) 53 [some (.ref 35), some (.int (nI j)), some (.int (nI s)), some (.ref 3), some (.int (nI 0)), some (.int (nI (9 - (Z.length + 1)))), some (.int (nI b)), some (.int (nI c)), some (.int (nI (i + 1)))] [] σ2 Q)) ∧ (∀ t, o = some t → am_K ru am_Lx IX2_push (d + 43) [.ref 3, .ref t] υ (fun _ σ2 => am_X rn am_Lx IX9_put (d + 44) 53 [some (.ref 35), some (.int (nI j)), some (.int (nI s)), some (.ref 3), some (.int (nI 0)), some (.int (nI (9 - (Z.length + 1)))), some (.int (nI b)), some (.int (nI c)), some (.int (nI (i + 1)))] [] σ2 Q)) := by
              intro o hr
              have k5 : gw [(3, 3)] [] [] [5, 6] 0 0 υ (wS (wP υ 5 Z.length o) 3 3 (nI (Z.length + 1))) := gw_wS (gw_wP gw_rfl (by decide) (by omega)) (by decide) (by omega)
              refine x_push (d := d + 42) (mk := Z.length) (by omega) k2 hr (nx _ (by omega) (gw_trans k1 k5) (wS_at _ _ _ _) fun a y hy => ?_)
              rw [gP_wS]
              refine Ro_ext ?_ (gw_ext k5)
              by_cases e : a = Z.length
              · subst e
                rw [List.getElem?_append_right (Nat.le_refl _), Nat.sub_self] at hy
                cases hy
                rw [wP_at]
                exact hr
              · have ha := get_lt hy
                rw [List.length_append, List.length_singleton] at ha
                rw [List.getElem?_append_left (by omega)] at hy
                rw [wP_ne (by omega)]
                exact k3 a y hy
            refine ⟨pk_in b 16 (by omega), fun hneg => ?_, fun hnn => ?_⟩
            · have e0 : pTm U b = node 0 (6 + b) [] := by
                unfold pTm
                rw [if_neg (by rw [i_lt, c2, l_0] at hneg; omega)]
              rw [show (6 : Int32) = nI 6 from rfl, nI_add]
              refine x_variable (d := d + 42) (lts_gw hl k1 (by decide)) (by omega) fun o ho => ?_
              rw [← e0] at ho
              exact push o ho
            · rcases c4 with c4 | c4 | ⟨g, c4, c5, c6⟩
              · exact absurd (by rw [i_lt, c2, c4]; decide) hnn
              · exact absurd (by rw [i_lt, c2, c4]; decide) hnn
              · have e46 : gA υ 46 b = nI g := nI_ofT (by rw [c2, c4])
                rw [e46, nI_clamp (n := g) (by omega)]
                obtain ⟨⟨t, t1, t2⟩, _⟩ := uu.2.1.2.2 g _ (List.getElem?_eq_getElem c6)
                have e0 : pTm U b = U[g].1 := by
                  unfold pTm
                  rw [if_pos (by omega), c4, Int.toNat_natCast, List.getD_eq_getElem?_getD, List.getElem?_eq_getElem c6]
                  rfl
                have hr : Ro υ (some t) (pTm U b) := ⟨hpt.1, Or.inl ⟨hpt.2.1, t, rfl, by rw [e0]; exact t2⟩⟩
                exact ⟨pk_in b 16 (by omega), pk_in g 16 (by omega), o_s t1 ((push _ hr).2 t rfl)⟩
      refine vX9_put_13 (pk_le (uB U).length b (fun h => by omega) (fun _ => ?_) ut.2.2.2.2.2.1.1 rfl (by omega) (by omega))
      have start := fun c (hcd : c = pcn U j s b) => inn c hcd c 0 τ (by omega) g1
      rw [List.replicate_zero, List.append_nil] at start
      by_cases hbit : s.testBit b = true
      · refine ⟨fun z => absurd ((nx_tb0 (by omega) (by omega)).mp z) (by rw [hbit]; simp), fun _ => ?_⟩
        refine x_given36 (d := d + 42) ut.2.2.1 ut.2.2.2.2.2.1 hbm (by omega) hj hn ?_
        exact start _ (by unfold pcn; rw [if_pos hbit]) g2 g3
      · refine ⟨fun _ => ?_, fun z => absurd ((nx_tb0 (by omega) (by omega)).mpr (by simpa using hbit)) z⟩
        exact start 0 (by unfold pcn; rw [if_neg hbit]) g2 g3
  refine vX9_put (vX2_mark ?_)
  rw [h3]
  exact out (uB U).length 0 σ (by omega) gw_rfl (by simpa [pxs] using h3) (fun i y hy => by simp [pxs] at hy)
end FL
