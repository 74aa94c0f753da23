/-! ===== the reference: solveOne ===== -/
def gpush (σ : am_S) (G : Nat) (l1 l2 l3 l4 l5 : Int32) : am_S := wS (wA (wA (wA (wA (wA σ 12 G l1) 13 G l2) 14 G l3) 15 G l4) 16 G l5) 0 26 (nI (G + 1))
/-- goals were pushed -/
def kP (G : Nat) (σ τ : am_S) : Prop := (∀ n k, (n, k) ≠ (0, 26) → gS τ n k = gS σ n k) ∧ (∀ n, ¬ (12 ≤ n ∧ n ≤ 16) → gA τ n = gA σ n) ∧ (∀ n, 12 ≤ n → n ≤ 16 → ∀ i, i < G → gA τ n i = gA σ n i) ∧ τ.2 = σ.2
section MW1
variable {σ τ υ : am_S} {ns : List Nat} {P t : Tm} {β β' : Nat → Option Tm} {Gs Gs' : List Gl} {F : Option (List (List Tm))} {E : List (List Tm)} {T G d : Nat}
theorem m_goal {l1 l2 l3 l4 l5 : Int32} {Q : Int32 → am_S → Prop} (h26 : gS σ 0 26 = nI G) (hG : G < 4000) (H : Q (nI G) (gpush σ G l1 l2 l3 l4 l5)) : am_K ri am_Lm IX11_goal (d + 1) [.ref 0, .int l1, .int l2, .int l3, .int l4, .int l5] σ Q := by
  refine vX11_goal ?_
  rw [h26, nI_clamp (n := G) (by omega), nI_1, nI_pred]
  have v := pk_in (x := nI G) G 4000 hG
  exact ⟨v, v, v, v, v, H⟩
theorem kP_rfl : kP G σ σ := ⟨fun _ _ _ => rfl, fun _ _ => rfl, fun _ _ _ _ _ => rfl, rfl⟩
theorem kP_trans {G' : Nat} (h : kP G σ τ) (g : kP G' τ υ) (hG : G ≤ G') : kP G σ υ := ⟨fun n k z => (g.1 n k z).trans (h.1 n k z), fun n z => (g.2.1 n z).trans (h.2.1 n z), fun n a b i z => (g.2.2.1 n a b i (by omega)).trans (h.2.2.1 n a b i z), g.2.2.2.trans h.2.2.2⟩
theorem kP_push {l1 l2 l3 l4 l5 : Int32} : kP G σ (gpush σ G l1 l2 l3 l4 l5) := by
  refine ⟨fun n k z => ?_, fun n z => ?_, fun n h1 h2 i hi => ?_, rfl⟩
  · unfold gpush
    rw [wS_ne (fun e => z (by rw [e.1, e.2]))]
    rfl
  · unfold gpush
    rw [gA_wS, wA_arr (by omega), wA_arr (by omega), wA_arr (by omega), wA_arr (by omega), wA_arr (by omega)]
  · unfold gpush
    rw [gA_wS, wA_ne (by omega), wA_ne (by omega), wA_ne (by omega), wA_ne (by omega), wA_ne (by omega)]
theorem push_at {l1 l2 l3 l4 l5 : Int32} : gA (gpush σ G l1 l2 l3 l4 l5) 12 G = l1 ∧ gA (gpush σ G l1 l2 l3 l4 l5) 13 G = l2 ∧ gA (gpush σ G l1 l2 l3 l4 l5) 14 G = l3 ∧ gA (gpush σ G l1 l2 l3 l4 l5) 15 G = l4 ∧ gA (gpush σ G l1 l2 l3 l4 l5) 16 G = l5 ∧ gS (gpush σ G l1 l2 l3 l4 l5) 0 26 = nI (G + 1) := by
  unfold gpush
  refine ⟨?_, ?_, ?_, ?_, ?_, wS_at _ _ _ _⟩
  · rw [gA_wS, wA_ne (by omega), wA_ne (by omega), wA_ne (by omega), wA_ne (by omega), wA_at]
  · rw [gA_wS, wA_ne (by omega), wA_ne (by omega), wA_ne (by omega), wA_at]
  · rw [gA_wS, wA_ne (by omega), wA_ne (by omega), wA_at]
  · rw [gA_wS, wA_ne (by omega), wA_at]
  · rw [gA_wS, wA_at]
theorem kP_seg {p : Nat} {x : Tm} (h : kP G σ τ) (g : seg σ p x) : seg τ p x := seg_move (fun a h1 h4 i hi => by rw [h.2.1 a (by omega)]) g
theorem kP_okP {p : Nat} {x : Tm} (h : okP ns σ p x) (g : kP G σ τ) : okP ns τ p x := ⟨h.1, h.2.1, kP_seg g h.2.2.1, h.2.2.2⟩
theorem kP_okT {p : Nat} {x : Tm} (h : okT σ p x) (g : kP G σ τ) : okT τ p x := ⟨h.1, h.2.1, h.2.2.1, kP_seg g h.2.2.2.1, h.2.2.2.2⟩
theorem kP_gIn {g : Int32} (h : gIn ns σ Gs g G) (k : kP G σ τ) : gIn ns τ Gs g G := gIn_mv k.2.2.1 (fun n a i _ => by rw [k.2.1 n (by omega)]) h
theorem kP_env {G' : Nat} (h : env ns β T G σ) (k : kP G σ τ) (h26 : gS τ 0 26 = nI G') : env ns β T G' τ := by
  obtain ⟨h1, h2, h3, h3b, h4, h5, h6, h7, h8, h9⟩ := h
  refine ⟨⟨by rw [k.1 0 17 (by decide)]; exact h1.1, h1.2.1, h1.2.2.1, fun i a ha => by rw [k.2.1 9 (by omega)]; exact h1.2.2.2 i a ha⟩, h2, fun i hi => ?_, h3b, by rw [k.1 0 4 (by decide)]; exact h4, by rw [k.1 0 5 (by decide)]; exact h5, by rw [k.1 0 7 (by decide)]; exact h6, h26, h8, h9⟩
  rw [k.2.1 10 (by omega)]
  rcases h3 i hi with a | ⟨y, p, a1, a2, a3, a4, a5⟩
  · exact Or.inl a
  · exact Or.inr ⟨y, p, a1, a2, kP_seg k a3, a4, a5⟩
theorem kW_close {G1 : Nat} (h : kP G σ τ) (g : kW T G1 τ υ) (hG : G ≤ G1) (h26 : gS σ 0 26 = nI G) : kW T G σ (wS υ 0 26 (nI G)) := by
  refine ⟨fun n k z => ?_, fun n h5 z => (g.2.1 n h5 z).trans (h.2.1 n (by simp at z; omega)), fun i hi => (g.2.2.1 i hi).trans (by rw [h.2.1 10 (by omega)]), fun n a b i hi => (g.2.2.2.1 n a b i (by omega)).trans (h.2.2.1 n a b i hi), fun n a i hi => (g.2.2.2.2.1 n a i hi).trans (by rw [h.2.1 n (by omega)]), g.2.2.2.2.2.trans h.2.2.2⟩
  by_cases e : (n, k) = (0, 26)
  · obtain ⟨e1, e2⟩ := Prod.mk.inj e
    rw [e1, e2, wS_at, h26]
  · rw [wS_ne (fun q => e (by rw [q.1, q.2])), g.1 n k z, h.1 n k e]
theorem fnd_mv (h : fndM P t E σ) (h1 : gS τ 0 16 = gS σ 0 16) (h2 : ∀ n, n < 5 → gA τ n = gA σ n) : fndM P t E τ := ⟨by rw [h1]; exact h.1, h.2.1, h.2.2.1, h.2.2.2.1, fun i M hM k y hy => seg_move (fun a _ h4 i hi => by rw [h2 a (by omega)]) (h.2.2.2.2 i M hM k y hy)⟩
theorem ok_mv (h : okM P t E σ) (h0 : gS τ 0 27 = gS σ 0 27) (h1 : gS τ 0 16 = gS σ 0 16) (h2 : ∀ n, n < 5 → gA τ n = gA σ n) : okM P t E τ := ⟨by rw [h0]; exact h.1, fnd_mv h.2 h1 h2⟩
theorem pre_mv (h : preM P t F σ) (h0 : gS τ 0 27 = gS σ 0 27) (h1 : gS τ 0 16 = gS σ 0 16) (h2 : ∀ n, n < 5 → gA τ n = gA σ n) : preM P t F τ := by
  cases F with
  | none => exact ⟨by rw [h0]; exact h.1, h.2⟩
  | some E => exact ok_mv (E := E) h h0 h1 h2
theorem res_mv (h : resM ns P t F Gs β σ) (h0 : gS τ 0 27 = gS σ 0 27) (h1 : gS τ 0 16 = gS σ 0 16) (h2 : ∀ n, n < 5 → gA τ n = gA σ n) : resM ns P t F Gs β τ := by
  rcases h with h | ⟨E, F', e0, h, e⟩
  · exact Or.inl ⟨by rw [h0]; exact h.1, h.2⟩
  · exact Or.inr ⟨E, F', e0, ok_mv h h0 h1 h2, e⟩
theorem pre_kP (h : preM P t F σ) (k : kP G σ τ) : preM P t F τ := pre_mv h (k.1 0 27 (by decide)) (k.1 0 16 (by decide)) fun n hn => k.2.1 n (by omega)
theorem res_26 {v : Int32} (h : resM ns P t F Gs β σ) : resM ns P t F Gs β (wS σ 0 26 v) := res_mv h (wS_ne (by omega)) (wS_ne (by omega)) fun _ _ => rfl
theorem res_none (h : preM P t F σ) (hno : ∀ M, ¬ SolG ns Gs β M) : resM ns P t F Gs β σ := by
  cases F with
  | none => exact Or.inl h
  | some E => exact Or.inr ⟨E, E, rfl, h, fun M => ⟨Or.inl, fun q => q.elim id fun z => absurd z (hno M)⟩⟩
theorem res_eq (h : resM ns P t F Gs β τ) (e : ∀ M, SolG ns Gs β M ↔ SolG ns Gs' β' M) : resM ns P t F Gs' β' τ := by
  rcases h with h | ⟨E, F', e0, h, q⟩
  · exact Or.inl h
  · exact Or.inr ⟨E, F', e0, h, fun M => by rw [q M, e M]⟩
theorem sub_nm {θ : Nat → Tm} {x : Tm} (hx : Can x) (h : kd x ≠ 0) (hθ : ∀ v, v < 22 → Can (θ v)) : nm (sub θ x) = nm x := by
  rw [sub_eq hx, if_neg h]
  by_cases h1 : kd x = 1
  · rw [if_pos h1]
  · rw [if_neg h1]
    by_cases h2 : kd x = 2
    · rw [if_pos h2, nm_node]
    · rw [if_neg h2]
      obtain ⟨_, l, c⟩ := Can_pts hx
      have hk := (Can_kd hx).1
      have hk34 : kd x = 3 ∨ kd x = 4 := by omega
      have hl := loc_k l hk34
      rw [joinT_two hk34 (fun z hz => by
        obtain ⟨w, hw, e⟩ := List.mem_map.mp hz
        rw [← e]; exact sub_can hθ w (c w hw)) (by rw [List.length_map]; exact hl.2.1), nm_node, hl.1]
theorem asg_var {M : List Tm} {x : Tm} (hx : Can x) (h0 : kd x = 0) : sub (asg ns M) x = asg ns M (nm x) := by rw [sub_eq hx, if_pos h0]
theorem SolG_can {M : List Tm} (h : SolG ns Gs β M) : ∀ v, v < 22 → Can (asg ns M v) := fun v hv => asg_can h.1 h.2.1 hv
/-- work, for goals of some size -/
def WS (P t : Tm) (n : Nat) : Prop := ∀ (d : Nat) (Gs : List Gl) (β : Nat → Option Tm) (T G : Nat) (F : Option (List (List Tm))) (σ : am_S) (g : Int32) (Q : Unit → am_S → Prop), mus Gs ≤ n → env (nms (vb P)) β T G σ → gIn (nms (vb P)) σ Gs g G → (∀ M, SolG (nms (vb P)) Gs β M → isM P t M) → preM P t F σ → G + 2 * mus Gs ≤ 2990 → (∀ τ, kW T G σ τ → resM (nms (vb P)) P t F Gs β τ → Q () τ) → am_K ru am_Lm IX11_work (d + 3 * n + 45) [.ref 0, .int g] σ Q
theorem mus_zip : ∀ {L R : List Tm} {rest : List Gl}, L.length = R.length → mus ((L.zip R).map Sum.inl ++ rest) = 3 * L.flatten.length + mus rest
  | [], [], rest, _ => by simp
  | [], _ :: _, _, h => by simp at h
  | _ :: _, [], _, h => by simp at h
  | x :: L, y :: R, rest, h => by
    have := mus_zip (L := L) (R := R) (rest := rest) (by simpa using h)
    simp only [List.zip_cons_cons, List.map_cons, List.cons_append, mus, mu1, List.flatten_cons, List.length_append]
    rw [this]
    omega
theorem sat_zip {θ : Nat → Tm} : ∀ {L R : List Tm}, L.length = R.length → ((∀ g ∈ ((L.zip R).map Sum.inl : List Gl), satG θ g) ↔ L.map (sub θ) = R)
  | [], [], _ => by simp
  | [], _ :: _, h => by simp at h
  | _ :: _, [], h => by simp at h
  | x :: L, y :: R, h => by
    have := sat_zip (θ := θ) (L := L) (R := R) (by simpa using h)
    simp only [List.zip_cons_cons, List.map_cons, List.mem_cons, List.cons.injEq]
    constructor
    · intro hh
      exact ⟨hh _ (Or.inl rfl), this.mp fun g hg => hh g (Or.inr hg)⟩
    · rintro ⟨h1, h2⟩ g (e | hg)
      · rw [e]; exact h1
      · exact this.mpr h2 g hg
theorem SolG_app {A : List Gl} {M : List Tm} : SolG ns (A ++ Gs) β M ↔ SolG ns Gs β M ∧ ∀ g ∈ A, satG (asg ns M) g := by
  induction A with
  | nil => simp
  | cons a A ih =>
    rw [List.cons_append, SolG_cons, ih]
    constructor
    · rintro ⟨⟨h1, h2⟩, h3⟩
      refine ⟨h1, fun g hg => ?_⟩
      rcases List.mem_cons.mp hg with e | hg
      · rw [e]; exact h3
      · exact h2 g hg
    · rintro ⟨h1, h2⟩
      exact ⟨⟨h1, fun g hg => h2 g (List.mem_cons_of_mem _ hg)⟩, h2 a List.mem_cons_self⟩
theorem m_solveOne {n p s : Nat} {x y : Tm} {g : Int32} {Q : Unit → am_S → Prop} (hW : WS P t n) (hx : okP (nms (vb P)) σ p x) (hy : okT σ s y) (hmu : 3 * x.length + mus Gs ≤ n + 2) (he : env (nms (vb P)) β T G σ) (hg : gIn (nms (vb P)) σ Gs g G) (hgood : ∀ M, SolG (nms (vb P)) (Sum.inl (x, y) :: Gs) β M → isM P t M) (hpre : preM P t F σ) (hG : G + 2 * (3 * x.length + mus Gs) ≤ 2993) (H : ∀ τ, kW T G σ τ → resM (nms (vb P)) P t F (Sum.inl (x, y) :: Gs) β τ → Q () τ) : am_K ru am_Lm IX11_solveOne (d + 3 * n + 46) [.ref 0, .int (nI p), .int (nI s), .int g] σ Q := by
  obtain ⟨hxC, hxf, hxs, hxp, hxv⟩ := id hx
  obtain ⟨hyC, hyf, hyv, hys, hyp⟩ := id hy
  have hxw := Can_wf hxC
  have hyw := Can_wf hyC
  have px := wf_pos hxw
  have py := wf_pos hyw
  obtain ⟨r1, r2, r3, r4⟩ := seg_kd hxw hxs
  obtain ⟨q1, q2, q3, q4⟩ := seg_kd hyw hys
  have kx := Can_kd hxC
  have ky := Can_kd hyC
  have p8x := (fits_pts hxC hxf).1
  have p8y := (fits_pts hyC hyf).1
  have vx : vp_in (nI p) 70000 := pk_in p 70000 (by omega)
  have vy : vp_in (nI s) 70000 := pk_in s 70000 (by omega)
  have lx := (wf_pts hxw).2.2
  have h26 := he.2.2.2.2.2.2.2.1
  obtain ⟨ex, lox, cpx⟩ := Can_pts hxC
  have self : kW T G σ (wS σ 0 26 (gS σ 0 26)) := ⟨fun n k _ => by
    by_cases e : (n, k) = (0, 26)
    · obtain ⟨e1, e2⟩ := Prod.mk.inj e
      rw [e1, e2, wS_at]
    · rw [wS_ne (fun q => e (by rw [q.1, q.2]))], fun _ _ _ => rfl, fun _ _ => rfl, fun _ _ _ _ _ => rfl, fun _ _ _ _ => rfl, rfl⟩
  refine vX11_solveOne ⟨vx, ?_⟩
  rw [nI_clamp (n := p) (by omega), nI_clamp (n := s) (by omega), r1, r2, r3, q1, q2, q3]
  refine ⟨fun hne => ⟨vx, vy, ?_⟩, fun heq => ⟨vx, ?_⟩⟩
  · have hk0 : kd x ≠ 0 := fun z => hne (by rw [z]; rfl)
    refine And.symm (pk_eq (kd x) (kd y) (fun hkk => ⟨vx, vy, ?_⟩) (fun hkk => H σ kW_rfl (res_none hpre fun M hM => hkk ?_)) rfl rfl (by omega) (by omega))
    · refine pk_eq (nm x) (nm y) (fun hnn => ⟨vx, ?_⟩) (fun hnn => H σ kW_rfl (res_none hpre fun M hM => hnn ?_)) rfl rfl (by omega) (by omega)
      · refine And.symm (pk_eq (kd x) 1 (fun h1 => ?_) (fun h1 => ⟨vx, ?_⟩) rfl rfl (by omega) (by omega))
        · -- a constant
          have hxy : x = y := by
            obtain ⟨ey, loy, _⟩ := Can_pts hyC
            rcases lox with c | c | c | c
            · omega
            · rcases loy with b | b | b | b
              · omega
              · rw [ex, ey, hkk, hnn, c.2.2, b.2.2]
              · omega
              · omega
            · omega
            · omega
          have hsol : ∀ M, SolG (nms (vb P)) Gs β M ↔ SolG (nms (vb P)) (Sum.inl (x, y) :: Gs) β M := fun M => by
            rw [SolG_cons]
            refine ⟨fun h => ⟨h, ?_⟩, fun h => h.1⟩
            show sub _ x = y
            rw [sub_eq hxC, if_neg hk0, if_pos h1]
            exact hxy
          refine hW d Gs β T G F σ g _ (by omega) he hg (fun M hM => hgood M ((hsol M).mp hM)) hpre (by omega) fun τ k1 k2 => ?_
          rw [h26]
          exact H _ (kW_close kP_rfl k1 (Nat.le_refl _) h26) (res_26 (res_eq k2 hsol))
        · refine pk_eq (kd x) 2 (fun h2 => ⟨vx, vy, ?_⟩) (fun h2 => ⟨vx, ?_⟩) rfl rfl (by omega) (by omega)
          · -- a function
            have eqn : ∀ M, SolG (nms (vb P)) Gs β M → (satG (asg (nms (vb P)) M) (Sum.inl (x, y)) ↔ (pts x).map (sub (asg (nms (vb P)) M)) = pts y) := fun M hM => by
              show sub (asg (nms (vb P)) M) x = y ↔ _
              have := fun_iff (θ := asg (nms (vb P)) M) (a := nm x) (L := pts x) (t := y) (by rw [← h2]; exact lox) cpx (SolG_can hM) hyC
              rw [← h2, ← ex] at this
              rw [this]
              exact ⟨fun z => z.2.2, fun z => ⟨by omega, hnn.symm, z⟩⟩
            refine And.symm (pk_eq (pts x).length (pts y).length (fun hl => ⟨vx, ?_⟩) (fun hl => H _ self (res_26 (res_none hpre fun M hM => hl ?_))) rfl rfl (by omega) (by omega))
            · have hsol : ∀ M, SolG (nms (vb P)) (((pts x).zip (pts y)).map Sum.inl ++ Gs) β M ↔ SolG (nms (vb P)) (Sum.inl (x, y) :: Gs) β M := fun M => by
                rw [SolG_app, SolG_cons]
                constructor
                · rintro ⟨a, b⟩
                  exact ⟨a, (eqn M a).mpr ((sat_zip hl).mp b)⟩
                · rintro ⟨a, b⟩
                  exact ⟨a, (sat_zip hl).mpr ((eqn M a).mp b)⟩
              have hp3 : (pts x).length ≤ 3 := by
                rcases lox with q | q | q | q <;> omega
              have loop : ∀ c τ g', c ≤ (pts x).length → kP G σ τ → gS τ 0 26 = nI (G + ((pts x).length - c)) → gIn (nms (vb P)) τ ((((pts x).drop c).zip ((pts y).drop c)).map Sum.inl ++ Gs) g' (G + ((pts x).length - c)) → am_X ru am_Lm IX11_solveOne (d + 3 * n + 46) 190 [some (.ref 0), some (.int (nI p)), some (.int (nI s)), some (.int g), some (.int (gS σ 0 26)), some (.int g'), some (.int (nI c - 1))] [] τ Q := by
                intro c
                induction c with
                | zero =>
                  intro τ g' hc w1 w2 w3
                  rw [List.drop_zero, List.drop_zero] at w3
                  refine vX11_solveOne_190 ⟨fun _ => ?_, fun z => absurd (by decide) z⟩
                  refine hW d _ β T (G + ((pts x).length - 0)) F τ g' _ (by rw [mus_zip hl]; omega) (kP_env he w1 w2) w3 (fun M hM => hgood M ((hsol M).mp hM)) (pre_kP hpre w1) (by rw [mus_zip hl]; omega) fun υ k1 k2 => ?_
                  rw [h26]
                  exact H _ (kW_close w1 k1 (by omega) h26) (res_26 (res_eq k2 hsol))
                | succ c ih =>
                  intro τ g' hc w1 w2 w3
                  have hcx : c < (pts x).length := by omega
                  have hcy : c < (pts y).length := by omega
                  have ox := off_s hcx
                  have oy := off_s hcy
                  have ox2 := off_le (pts x) (c + 1)
                  have oy2 := off_le (pts y) (c + 1)
                  have ly := (wf_pts hyw).2.2
                  rw [nI_pred]
                  refine vX11_solveOne_190 ⟨fun z => absurd z (nI_pos (by omega)), fun _ => ?_⟩
                  refine m_partAt (d := d + 3 * n + 44) hxw (kP_seg w1 hxs) (by omega) (by omega) (m_partAt (d := d + 3 * n + 44) hyw (kP_seg w1 hys) (by omega) (by omega) (m_goal (d := d + 3 * n + 44) w2 (by omega) ?_))
                  rw [show nI c + (-1 : Int32) = nI c - 1 from by rw [show (-1 : Int32) = -1 from rfl, Int32.sub_eq_add_neg]]
                  have eG : G + ((pts x).length - c) = G + ((pts x).length - (c + 1)) + 1 := by omega
                  have kp := kP_push (σ := τ) (G := G + ((pts x).length - (c + 1))) (l1 := nI (p + 1 + off (pts x) c)) (l2 := nI (s + 1 + off (pts y) c)) (l3 := -1) (l4 := 0) (l5 := g')
                  have pa := push_at (σ := τ) (G := G + ((pts x).length - (c + 1))) (l1 := nI (p + 1 + off (pts x) c)) (l2 := nI (s + 1 + off (pts y) c)) (l3 := -1) (l4 := 0) (l5 := g')
                  refine ih _ _ (by omega) (kP_trans w1 kp (by omega)) (by rw [pa.2.2.2.2.2, eG]) ?_
                  rw [List.drop_eq_getElem_cons hcx, List.drop_eq_getElem_cons hcy, List.zip_cons_cons, List.map_cons, List.cons_append, eG]
                  refine ⟨_, by omega, rfl, ⟨_, _, pa.1, pa.2.1, pa.2.2.1, ⟨cpx _ (List.getElem_mem hcx), (fits_pts hxC hxf).2 _ (List.getElem_mem hcx), kP_seg kp (seg_pts hxw (kP_seg w1 hxs) c _ (List.getElem?_eq_getElem hcx)), (by show _ + (pts x)[c].length ≤ 640; omega), fun a ha => hxv a (vb_pts hxC (List.getElem_mem hcx) ha)⟩, ⟨(Can_pts hyC).2.2 _ (List.getElem_mem hcy), (fits_pts hyC hyf).2 _ (List.getElem_mem hcy), ?_, kP_seg kp (seg_pts hyw (kP_seg w1 hys) c _ (List.getElem?_eq_getElem hcy)), (by show _ + (pts y)[c].length ≤ 640; omega)⟩⟩, ?_⟩
                  · have hz : vb (pts y).flatten = 0 := by
                      have := hyv
                      rw [(Can_pts hyC).1, vb_node] at this
                      exact (Nat.or_eq_zero_iff.mp this).2
                    exact vb_flat hz _ (List.getElem_mem hcy)
                  · rw [pa.2.2.2.2.1]
                    exact kP_gIn w3 kp
              have := loop (pts x).length σ g (Nat.le_refl _) kP_rfl (by rw [Nat.sub_self]; exact h26) (by
                rw [List.drop_of_length_le (Nat.le_refl _), Nat.sub_self]
                exact hg)
              exact this
            · have hS := SolG_cons.mp hM
              have := congrArg List.length ((eqn M hS.1).mp hS.2)
              rw [List.length_map] at this
              exact this
          · -- a sum or product
            have hk34 : kd x = 3 ∨ kd x = 4 := by omega
            have lk := loc_k lox hk34
            have lkl : loc (kd x) 0 (pts x) := by rw [← lk.1]; exact lox
            have hsol : ∀ M, SolG (nms (vb P)) (Sum.inr (kd x, pts x, pts y) :: Gs) β M ↔ SolG (nms (vb P)) (Sum.inl (x, y) :: Gs) β M := fun M => by
              rw [SolG_cons, SolG_cons]
              have eqn : SolG (nms (vb P)) Gs β M → (satG (asg (nms (vb P)) M) (Sum.inr (kd x, pts x, pts y)) ↔ satG (asg (nms (vb P)) M) (Sum.inl (x, y))) := fun hM => by
                show (flK (kd x) ((pts x).map (sub (asg (nms (vb P)) M)))).Perm (pts y) ↔ sub (asg (nms (vb P)) M) x = y
                have := loose_iff (θ := asg (nms (vb P)) M) (t := y) hk34 lkl cpx (SolG_can hM) hyC
                rw [← lk.1, ← ex] at this
                rw [this]
                exact ⟨fun z => ⟨hkk.symm, z⟩, fun z => z.2⟩
              exact ⟨fun z => ⟨z.1, (eqn z.1).mp z.2⟩, fun z => ⟨z.1, (eqn z.1).mpr z.2⟩⟩
            refine m_goal (d := d + 3 * n + 44) h26 (by omega) ?_
            have kp := kP_push (σ := σ) (G := G) (l1 := nI p) (l2 := nI s) (l3 := nI (pts x).length) (l4 := 0) (l5 := g)
            have pa := push_at (σ := σ) (G := G) (l1 := nI p) (l2 := nI s) (l3 := nI (pts x).length) (l4 := 0) (l5 := g)
            have hmx : mus (Sum.inr (kd x, pts x, pts y) :: Gs) = 3 * (pts x).flatten.length + 1 + mus Gs := rfl
            refine hW d (Sum.inr (kd x, pts x, pts y) :: Gs) β T (G + 1) F _ _ _ (by rw [hmx]; omega) (kP_env he kp pa.2.2.2.2.2) ⟨G, by omega, rfl, ⟨p, s, (pts x).length, 0, x, y, pa.1, pa.2.1, pa.2.2.1, pa.2.2.2.1, kP_okP hx kp, kP_okT hy kp, hk34, rfl, hkk.symm, Nat.le_refl _, by rw [List.take_length], Nat.two_pow_pos _, (unm_0 _).symm⟩, by rw [pa.2.2.2.2.1]; exact kP_gIn hg kp⟩ (fun M hM => hgood M ((hsol M).mp hM)) (pre_kP hpre kp) (by rw [hmx]; omega) fun τ k1 k2 => ?_
            rw [h26]
            exact H _ (kW_close kp k1 (by omega) h26) (res_26 (res_eq k2 hsol))
      · have hS := SolG_cons.mp hM
        have h2 : sub (asg (nms (vb P)) M) x = y := hS.2
        rw [← h2, sub_nm hxC hk0 (SolG_can hS.1)]
    · have hS := SolG_cons.mp hM
      have h2 : sub (asg (nms (vb P)) M) x = y := hS.2
      rw [← h2, sub_kind hxC hk0 (SolG_can hS.1)]
  · -- a variable
    have hk0 : kd x = 0 := (nx_z (by omega)).mp heq
    have hmem : nm x ∈ nms (vb P) := hxv _ (by rw [vb_var hxC hk0, tb_pow]; simp)
    have hget := ixN_get hmem
    have hil := get_lt hget
    have hn4 := he.1.2.1
    have hx1 : x.length = 1 := by
      have e := (kd0_node hxC hk0).1
      rw [e, node_len]
      simp
    refine m_nameOf (d := d + 3 * n + 44) he.1 kx.2 (fun _ => ?_) (fun h => absurd hmem h)
    generalize hii : ixN (nm x) (nms (vb P)) = i at hget hil
    rw [nI_clamp (n := i) (by omega)]
    have v4 : vp_in (nI i) 4 := pk_in i 4 (by omega)
    have sati : ∀ M, SolG (nms (vb P)) Gs β M → (satG (asg (nms (vb P)) M) (Sum.inl (x, y)) ↔ M[i]? = some y) := fun M hM => by
      show sub (asg (nms (vb P)) M) x = y ↔ _
      rw [asg_var hxC hk0]
      have hiM : i < M.length := by rw [hM.1]; exact hil
      rw [asg_in he.2.1 hget (List.getElem?_eq_getElem hiM), List.getElem?_eq_getElem hiM]
      exact ⟨fun z => by rw [z], fun z => Option.some.inj z⟩
    refine ⟨v4, ?_⟩
    rcases he.2.2.1 i hil with ⟨b1, b2⟩ | ⟨z, pz, b1, b2, b3, b4, b5, b6, b7⟩
    · rw [b2]
      refine ⟨fun _ => ⟨v4, ?_⟩, fun z => absurd (by decide) z⟩
      have hsol : ∀ M, SolG (nms (vb P)) Gs (up β i y) M ↔ SolG (nms (vb P)) (Sum.inl (x, y) :: Gs) β M := fun M => by
        rw [SolG_up hil b1, SolG_cons]
        exact ⟨fun z => ⟨z.1, (sati M z.1).mpr z.2⟩, fun z => ⟨z.1, (sati M z.1).mp z.2⟩⟩
      have w10 : ∀ {q : Nat} {w : Tm}, seg σ q w → seg (wA σ 10 i (nI s)) q w := fun h => seg_move (fun a _ h4 i hi => by rw [wA_arr (by omega)]) h
      obtain ⟨e1, e2, e3, e3b, e4, e5, e6, e7, e8, e9⟩ := id he
      have he2 : env (nms (vb P)) (up β i y) T G (wA σ 10 i (nI s)) := by
        refine ⟨⟨e1.1, e1.2.1, e1.2.2.1, fun j a ha => by rw [wA_arr (by omega)]; exact e1.2.2.2 j a ha⟩, e2, fun j hj => ?_, fun j hj => ?_, e4, e5, e6, e7, e8, ?_⟩
        · by_cases e : j = i
          · subst e
            exact Or.inr ⟨y, s, if_pos rfl, wA_at _ _ _ _, w10 hys, Or.inl hyp, hyC, hyf, hyv⟩
          · rw [wA_ne (by omega)]
            unfold up
            rw [if_neg e]
            rcases e3 j hj with a | ⟨w, q, a1, a2, a3, a4⟩
            · exact Or.inl a
            · exact Or.inr ⟨w, q, a1, a2, w10 a3, a4⟩
        · unfold up
          rw [if_neg (by omega)]; exact e3b j hj
        · have := unb_up (y := y) hil b1
          omega
      refine hW d Gs (up β i y) T G F _ g _ (by omega) he2 (gIn_mv (fun n a b j _ => by rw [wA_arr (by omega)]) (fun n a j _ => by rw [wA_arr (by omega)]) hg) (fun M hM => hgood M ((hsol M).mp hM)) (pre_mv hpre rfl rfl fun n hn => wA_arr (by omega)) (by omega) fun τ k1 k2 => ⟨v4, H _ ?_ (res_mv (res_eq k2 hsol) rfl rfl fun n hn => wA_arr (by omega))⟩
      refine ⟨fun n k z => k1.1 n k z, fun n h5 z => ?_, fun j hj => ?_, fun n a b j hj => ?_, fun n a j hj => ?_, k1.2.2.2.2.2⟩
      · rw [wA_arr (fun e => z (by rw [e]; simp)), k1.2.1 n h5 z, wA_arr (fun e => z (by rw [e]; simp))]
      · by_cases e : j = i
        · subst e; rw [wA_at, b2]
        · rw [wA_ne (by omega), k1.2.2.1 j hj, wA_ne (by omega)]
      · rw [wA_arr (by omega), k1.2.2.2.1 n a b j hj, wA_arr (by omega)]
      · rw [wA_arr (by omega), k1.2.2.2.2.1 n a j hj, wA_arr (by omega)]
    · have hpz := wf_pos (Can_wf b5)
      have hzl := b6.1
      have hT := he.2.2.2.2.2.2.2.2.2
      rw [b2]
      refine ⟨fun z => absurd z (nI_pos (by omega)), fun _ => ⟨v4, ?_⟩⟩
      have force : ∀ M, SolG (nms (vb P)) Gs β M → M[i]? = some z := fun M hM => hM.2.2.1 i z b1 (by rw [hM.1]; exact hil)
      have bad : z ≠ y → ∀ v : Int32, ¬ v = 0 → (¬ v = 0 → Q () σ) ∧ (v = 0 → am_K ru am_Lm IX11_work (d + 3 * n + 45) [.ref 0, .int g] σ (fun _ σ7 => Q () σ7)) := fun hzy v hv => ⟨fun _ => H σ kW_rfl (res_none hpre fun M hM => ?_), fun w => absurd w hv⟩
      · rw [show d + 3 * n + 45 = (d + 3 * n + 5) + 40 by omega]
        refine m_ordered 40 z y σ pz s (d + 3 * n + 5) _ (canF_mono hzl (canF_len _ b5)) hyC b3 hys (by omega) (by omega) (fun h v hv => bad (fun e => ?_) v (fun e => ?_)) (fun h => ⟨fun w => absurd rfl w, fun _ => ?_⟩) (fun h v hv => bad (fun e => ?_) v (fun e => ?_))
        · rw [e] at h; exact tlt_irr _ h
        · rw [e] at hv; exact absurd hv (by decide)
        · have hsol : ∀ M, SolG (nms (vb P)) Gs β M ↔ SolG (nms (vb P)) (Sum.inl (x, y) :: Gs) β M := fun M => by
            rw [SolG_cons]
            exact ⟨fun w => ⟨w, (sati M w).mpr (by rw [force M w, h])⟩, fun w => w.1⟩
          exact hW d Gs β T G F σ g _ (by omega) he hg (fun M hM => hgood M ((hsol M).mp hM)) hpre (by omega) fun τ k1 k2 => H τ k1 (res_eq k2 hsol)
        · rw [e] at h; exact tlt_irr _ h
        · rw [e] at hv; exact absurd hv (by decide)
      · have hS := SolG_cons.mp hM
        have h1 := (sati M hS.1).mp hS.2
        rw [force M hS.1] at h1
        exact hzy (Option.some.inj h1)
end MW1
