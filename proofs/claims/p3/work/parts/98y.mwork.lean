/-! ===== the reference: solveParts, work ===== -/
section MWK
variable {σ τ υ : am_S} {ns : List Nat} {P t : Tm} {β β' : Nat → Option Tm} {Gs Gs' : List Gl} {F : Option (List (List Tm))} {T G d : Nat}
/-- the last part is no variable -/
theorem m_nonvar {n i0 k j m p s pq : Nat} {X Y q : Tm} {Q : Unit → am_S → Prop} (hW : WS P t n) (hi0 : i0 < G) (hX : okP (nms (vb P)) σ p X) (hY : okT σ s Y) (hk34 : k = 3 ∨ k = 4) (hkX : kd X = k) (hkY : kd Y = k) (hm : m < 2 ^ (pts Y).length) (hgr : gIn (nms (vb P)) σ Gs (gA σ 16 i0) i0) (hjX : j ≤ (pts X).length) (hq : okP (nms (vb P)) σ pq q) (hq0 : kd q ≠ 0) (hqk : kd q ≠ k) (hmu : 3 * ((pts X).take j).flatten.length + 3 * q.length + 1 + mus Gs ≤ n + 1) (he : env (nms (vb P)) β T G σ) (hgood : ∀ M, SolG (nms (vb P)) (Sum.inr (k, (pts X).take j ++ [q], unm (pts Y) m) :: Gs) β M → isM P t M) (hpre : preM P t F σ) (hG : G + 2 * (3 * ((pts X).take j).flatten.length + 3 * q.length + 1 + mus Gs) ≤ 2990) (H : ∀ τ, kW T G σ τ → resM (nms (vb P)) P t F (Sum.inr (k, (pts X).take j ++ [q], unm (pts Y) m) :: Gs) β τ → Q () τ) : am_X ru am_Lm IX11_solveParts (d + 3 * n + 47) 95 [some (.ref 0), some (.int (nI i0)), some (.int (nI p)), some (.int (nI s)), some (.int (nI m)), some (.int (nI (pts Y).length)), some (.int (nI j)), some (.int (nI G)), some (.int (nI pq)), some (.int (0 : Int32)), none, none, none, none] [] σ Q := by
  obtain ⟨hXC, hXf, hXs, hXp, hXv⟩ := id hX
  obtain ⟨hYC, hYf, hYv, hYs, hYp⟩ := id hY
  have hYw := Can_wf hYC
  have pY := wf_pos hYw
  have p8X := (fits_pts hXC hXf).1
  have p8Y := (fits_pts hYC hYf).1
  have h26 := he.2.2.2.2.2.2.2.1
  have v0 : vp_in (nI i0) 4000 := pk_in i0 4000 (by omega)
  have p256 : 2 ^ (pts Y).length ≤ 2 ^ 8 := Nat.pow_le_pow_right (by decide) p8Y
  let good : Nat → Prop := fun i => m.testBit i = false ∧ (i = 0 ∨ m.testBit (i - 1) = true ∨ (pts Y)[i - 1]? ≠ (pts Y)[i]?)
  let br : Nat → List Tm → Prop := fun i M => ∃ y, (pts Y)[i]? = some y ∧ SolG (nms (vb P)) (Sum.inl (q, y) :: Sum.inr (k, (pts X).take j, unm (pts Y) (m ||| 2 ^ i)) :: Gs) β M
  have hsol : ∀ M, SolG (nms (vb P)) (Sum.inr (k, (pts X).take j ++ [q], unm (pts Y) m) :: Gs) β M ↔ ∃ i, i < (pts Y).length ∧ good i ∧ br i M := fun M => by
    rw [SolG_cons]
    constructor
    · rintro ⟨h1, h2⟩
      obtain ⟨i, i1, i2, i3, i4, i5⟩ := (sat_part hq.1 hq0 hqk (SolG_can h1)).mp h2
      exact ⟨i, i1, ⟨i2, i3⟩, _, i4, SolG_cons.mpr ⟨SolG_cons.mpr ⟨h1, i5⟩, rfl⟩⟩
    · rintro ⟨i, i1, ⟨i2, i3⟩, y, i4, i5⟩
      obtain ⟨i6, i7⟩ := SolG_cons.mp i5
      obtain ⟨i8, i9⟩ := SolG_cons.mp i6
      refine ⟨i8, (sat_part hq.1 hq0 hqk (SolG_can i8)).mpr ⟨i, i1, i2, i3, ?_, i9⟩⟩
      rw [i4]
      have : sub (asg (nms (vb P)) M) q = y := i7
      rw [this]
  let inv : Nat → Option (List (List Tm)) → Prop := fun i F1 => F1 = none ∨ ∃ E E1, F = some E ∧ F1 = some E1 ∧ ∀ M, M ∈ E1 ↔ M ∈ E ∨ ∃ c, c < i ∧ good c ∧ br c M
  have loop : ∀ r i τ F1, i + r = (pts Y).length → kW T G σ τ → preM P t F1 τ → inv i F1 → am_X ru am_Lm IX11_solveParts (d + 3 * n + 47) 95 [some (.ref 0), some (.int (nI i0)), some (.int (nI p)), some (.int (nI s)), some (.int (nI m)), some (.int (nI (pts Y).length)), some (.int (nI j)), some (.int (nI G)), some (.int (nI pq)), some (.int (nI i)), none, none, none, none] [] τ Q := by
    intro r
    induction r with
    | zero =>
      intro i τ F1 hi w1 w2 w3
      obtain rfl : i = (pts Y).length := by omega
      refine vX11_solveParts_95 (pk_le (pts Y).length (pts Y).length (fun _ => H τ w1 ?_) (fun h => by omega))
      rcases w3 with w3 | ⟨E, E1, x1, x2, x3⟩
      · rw [w3] at w2; exact Or.inl w2
      · rw [x2] at w2
        exact Or.inr ⟨E, E1, x1, w2, fun M => by rw [x3 M, hsol M]⟩
    | succ r ih =>
      intro i τ F1 hi w1 w2 w3
      have hil : i < (pts Y).length := by omega
      have k16 : gA τ 16 i0 = gA σ 16 i0 := w1.2.2.2.1 16 (by omega) (by omega) i0 hi0
      have k26 : gS τ 0 26 = nI G := by rw [w1.1 0 26 (by decide)]; exact h26
      have kenv := env_kW he w1
      have kX := okP_kW hX w1
      have kY := okT_kW hY w1
      have kq := okP_kW hq w1
      have kg := gIn_kW (gIn_le hgr (Nat.le_of_lt hi0)) w1
      have skip : ¬ good i → am_X ru am_Lm IX11_solveParts (d + 3 * n + 47) 95 [some (.ref 0), some (.int (nI i0)), some (.int (nI p)), some (.int (nI s)), some (.int (nI m)), some (.int (nI (pts Y).length)), some (.int (nI j)), some (.int (nI G)), some (.int (nI pq)), some (.int (nI (i + 1))), none, none, none, none] [] τ Q := fun hng => ih (i + 1) τ F1 (by omega) w1 w2 (by
        rcases w3 with w3 | ⟨E, E1, x1, x2, x3⟩
        · exact Or.inl w3
        · refine Or.inr ⟨E, E1, x1, x2, fun M => (x3 M).trans ⟨fun h => ?_, fun h => ?_⟩⟩
          · rcases h with h | ⟨c, c1, c2⟩
            · exact Or.inl h
            · exact Or.inr ⟨c, by omega, c2⟩
          · rcases h with h | ⟨c, c1, c2⟩
            · exact Or.inl h
            · by_cases e : c = i
              · rw [e] at c2; exact absurd c2.1 hng
              · exact Or.inr ⟨c, by omega, c2⟩)
      refine vX11_solveParts_95 (pk_le (pts Y).length i (fun h => by omega) (fun _ => ?_))
      rw [nx_tb0 (by omega) (by omega), nI_1]
      refine ⟨fun hb => skip fun g => hb g.1, fun hb => ?_⟩
      rw [show d + 3 * n + 46 = (d + 3 * n + 5) + 41 by omega]
      refine m_isFirst (d := d + 3 * n + 5) hYC hYf kY.2.2.2.1 (by omega) hil (by omega) (fun hfi => ⟨fun z => absurd z (by decide), fun _ => ⟨v0, ?_⟩⟩) (fun hfi => ⟨fun _ => skip fun g => hfi g.2, fun z => absurd rfl z⟩)
      have hgd : good i := ⟨hb, hfi⟩
      rw [show (d + 3 * n + 5) + 41 = d + 3 * n + 46 by omega, nI_clamp (n := i0) (by omega), k16, nx_1shl (by omega), nx_or]
      refine m_goal (d := d + 3 * n + 45) k26 (by omega) ?_
      have kp := kP_push (σ := τ) (G := G) (l1 := nI p) (l2 := nI s) (l3 := nI j) (l4 := nI (m ||| 2 ^ i)) (l5 := gA σ 16 i0)
      have pa := push_at (σ := τ) (G := G) (l1 := nI p) (l2 := nI s) (l3 := nI j) (l4 := nI (m ||| 2 ^ i)) (l5 := gA σ 16 i0)
      have o1 := off_s hil
      have o2 := off_le (pts Y) (i + 1)
      have o3 := (wf_pts hYw).2.2
      have hgi := List.getElem?_eq_getElem hil
      have hzm := List.getElem_mem hil
      have kY2 := kP_okT kY kp
      have hmx : mus (Sum.inr (k, (pts X).take j, unm (pts Y) (m ||| 2 ^ i)) :: Gs) = 3 * ((pts X).take j).flatten.length + 1 + mus Gs := rfl
      have hlt : m ||| 2 ^ i < 2 ^ (pts Y).length := or_lt hm (Nat.pow_lt_pow_right (by decide) hil)
      refine m_partAt (d := d + 3 * n + 45) hYw kY2.2.2.2.1 (by omega) (by omega) ?_
      refine m_solveOne (d := d) (x := q) (y := (pts Y)[i]) hW (kP_okP kq kp) ⟨(Can_pts hYC).2.2 _ hzm, (fits_pts hYC hYf).2 _ hzm, pts_ground hYC hYv _ hzm, seg_pts hYw kY2.2.2.2.1 i _ hgi, by omega⟩ (Gs := Sum.inr (k, (pts X).take j, unm (pts Y) (m ||| 2 ^ i)) :: Gs) (by rw [hmx]; omega) (kP_env kenv kp pa.2.2.2.2.2) ⟨G, by omega, rfl, ⟨p, s, j, m ||| 2 ^ i, X, Y, pa.1, pa.2.1, pa.2.2.1, pa.2.2.2.1, kP_okP kX kp, kY2, hk34, hkX, hkY, hjX, rfl, hlt, rfl⟩, by rw [pa.2.2.2.2.1]; exact kP_gIn kg kp⟩ (fun M hM => hgood M ((hsol M).mpr ⟨i, hil, hgd, _, hgi, hM⟩)) (pre_kP w2 kp) (by rw [hmx]; omega) fun υ x1 x2 => ?_
      have kk : kW T G τ (wS υ 0 26 (nI G)) := kW_close kp x1 (by omega) k26
      rcases x2 with x2 | ⟨E1, F2, y1, y2, y3⟩
      · exact ih (i + 1) _ none (by omega) (kW_trans w1 kk) (show manyM P t _ from ⟨by rw [wS_ne (by omega)]; exact x2.1, x2.2⟩) (Or.inl rfl)
      · refine ih (i + 1) _ (some F2) (by omega) (kW_trans w1 kk) (show okM P t F2 _ from ok_mv y2 (wS_ne (by omega)) (wS_ne (by omega)) fun _ _ => rfl) ?_
        rcases w3 with w3 | ⟨E, E1', z1, z2, z3⟩
        · rw [w3] at y1; cases y1
        · rw [y1] at z2
          cases z2
          refine Or.inr ⟨E, F2, z1, rfl, fun M => ?_⟩
          rw [y3 M, z3 M]
          constructor
          · rintro ((h | ⟨c, c1, c2⟩) | h)
            · exact Or.inl h
            · exact Or.inr ⟨c, by omega, c2⟩
            · exact Or.inr ⟨i, by omega, hgd, _, hgi, h⟩
          · rintro (h | ⟨c, c1, c2, c3⟩)
            · exact Or.inl (Or.inl h)
            · by_cases e : c = i
              · subst e
                obtain ⟨y, e1, e2⟩ := c3
                rw [hgi] at e1; cases e1
                exact Or.inr e2
              · exact Or.inl (Or.inr ⟨c, by omega, c2, c3⟩)
  refine loop (pts Y).length 0 σ F (by omega) kW_rfl hpre ?_
  cases hF : F with
  | none => exact Or.inl rfl
  | some E => exact Or.inr ⟨E, E, by rw [hF], rfl, fun M => ⟨Or.inl, fun h => h.elim id fun ⟨c, c1, _⟩ => absurd c1 (Nat.not_lt_zero _)⟩⟩
theorem m_solveParts {n i0 k : Nat} {L R : List Tm} {Q : Unit → am_S → Prop} (hW : WS P t n) (hi0 : i0 < G) (hnd : nd (nms (vb P)) σ (Sum.inr (k, L, R)) i0) (hgr : gIn (nms (vb P)) σ Gs (gA σ 16 i0) i0) (hmu : 3 * L.flatten.length + 1 + mus Gs ≤ n + 1) (he : env (nms (vb P)) β T G σ) (hgood : ∀ M, SolG (nms (vb P)) (Sum.inr (k, L, R) :: Gs) β M → isM P t M) (hpre : preM P t F σ) (hG : G + 2 * (3 * L.flatten.length + 1 + mus Gs) ≤ 2990) (H : ∀ τ, kW T G σ τ → resM (nms (vb P)) P t F (Sum.inr (k, L, R) :: Gs) β τ → Q () τ) : am_K ru am_Lm IX11_solveParts (d + 3 * n + 47) [.ref 0, .int (nI i0)] σ Q := by
  obtain ⟨p, s, j, m, X, Y, a12, a13, a14, a15, hX, hY, hk34, hkX, hkY, hj, hL, hm, hR⟩ := hnd
  dsimp only at hk34 hkX hkY hL hR
  obtain ⟨hXC, hXf, hXs, hXp, hXv⟩ := id hX
  obtain ⟨hYC, hYf, hYv, hYs, hYp⟩ := id hY
  have hXw := Can_wf hXC
  have hYw := Can_wf hYC
  have pX := wf_pos hXw
  have pY := wf_pos hYw
  have p8X := (fits_pts hXC hXf).1
  have p8Y := (fits_pts hYC hYf).1
  obtain ⟨y1, y2, y3, y4⟩ := seg_kd hYw hYs
  have lX := (wf_pts hXw).2.2
  have h26 := he.2.2.2.2.2.2.2.1
  have v0 : vp_in (nI i0) 4000 := pk_in i0 4000 (by omega)
  have p256 : 2 ^ (pts Y).length ≤ 2 ^ 8 := Nat.pow_le_pow_right (by decide) p8Y
  have vs : vp_in (nI s) 70000 := pk_in s 70000 (by omega)
  have ns4 := he.1.2.1
  have lkX := loc_k (Can_pts hXC).2.1 (by omega)
  refine vX11_solveParts ⟨v0, v0, v0, ?_⟩
  rw [nI_clamp (n := i0) (by omega), a12, a13, a14, a15, nI_clamp (n := s) (by omega), y3, h26]
  refine ⟨vs, v0, ?_⟩
  cases j with
  | zero =>
    refine ⟨fun z => absurd z (by decide), fun _ => ?_⟩
    have e2 : ∀ k, k ≤ 8 → nI (2 ^ k) - 1 = nI (2 ^ k - 1) := by decide +kernel
    rw [nx_1shl (by omega), e2 _ p8Y]
    have hL0 : L = [] := by rw [hL]; simp
    have hsat : ∀ θ : Nat → Tm, satG θ (Sum.inr (k, L, R)) ↔ m = 2 ^ (pts Y).length - 1 := fun θ => by
      show (flK k (L.map (sub θ))).Perm R ↔ _
      rw [hL0, hR, ← unm_nil hm]
      exact ⟨fun h => (List.Perm.nil_eq h).symm, fun h => by rw [h]; exact List.Perm.refl _⟩
    refine And.symm (pk_eq m (2 ^ (pts Y).length - 1) (fun e => ⟨v0, ?_⟩) (fun e => H σ kW_rfl (res_none hpre fun M hM => e ((hsat _).mp (SolG_cons.mp hM).2))))
    have hsol : ∀ M, SolG (nms (vb P)) Gs β M ↔ SolG (nms (vb P)) (Sum.inr (k, L, R) :: Gs) β M := fun M => by
      rw [SolG_cons]
      exact ⟨fun h => ⟨h, (hsat _).mpr e⟩, fun h => h.1⟩
    rw [show d + 3 * n + 46 = (d + 1) + 3 * n + 45 by omega]
    exact hW (d + 1) Gs β T G F σ _ _ (by omega) he (gIn_le hgr (by omega)) (fun M hM => hgood M ((hsol M).mp hM)) hpre (by omega) fun τ k1 k2 => H τ k1 (res_eq k2 hsol)
  | succ j =>
    rw [nI_pred]
    refine ⟨fun _ => ?_, fun z => absurd (nI_pos' (by omega)) z⟩
    have hjl : j < (pts X).length := by omega
    have hLs : L = (pts X).take j ++ [(pts X)[j]] := by rw [hL, take_snoc hjl]
    have ox := off_s hjl
    have ox2 := off_le (pts X) (j + 1)
    have qmem := List.getElem_mem hjl
    have qC := (Can_pts hXC).2.2 _ qmem
    have qf := (fits_pts hXC hXf).2 _ qmem
    have qk : kd (pts X)[j] ≠ k := by rw [← hkX]; exact lkX.2.2.2 _ qmem
    have qs := seg_pts hXw hXs j _ (List.getElem?_eq_getElem hjl)
    have qp : p + 1 + off (pts X) j + (pts X)[j].length ≤ 640 := by omega
    have kq := Can_kd qC
    have wq := wf_pos (Can_wf qC)
    have hflat : L.flatten.length = ((pts X).take j).flatten.length + (pts X)[j].length := by
      rw [hLs, List.flatten_append, List.length_append]
      congr 1
      simp
    have qo : okP (nms (vb P)) σ (p + 1 + off (pts X) j) (pts X)[j] := ⟨qC, qf, qs, qp, fun a ha => hXv a (vb_pts hXC qmem ha)⟩
    rw [hLs, hR] at hgood H
    refine m_partAt (d := d + 3 * n + 45) hXw hXs (by omega) (by omega) ?_
    obtain ⟨z1, z2, z3, z4⟩ := seg_kd (Can_wf qC) qs
    rw [nI_clamp (n := p + 1 + off (pts X) j) (by omega), z1, z2]
    generalize (pts X)[j] = q at *
    refine ⟨pk_in (p + 1 + off (pts X) j) 70000 (by omega), pk_eq (kd q) 0 (fun hq0 => ⟨pk_in (p + 1 + off (pts X) j) 70000 (by omega), ?_⟩) (fun hq0 => ?_) rfl rfl (by omega) (by omega)⟩
    · have hmem : nm q ∈ nms (vb P) := qo.2.2.2.2 _ (by rw [vb_var qC hq0, tb_pow]; simp)
      have hget := ixN_get hmem
      have hil := get_lt hget
      refine m_nameOf (d := d + 3 * n + 45) he.1 kq.2 (fun _ => ?_) (fun h => absurd hmem h)
      generalize hii : ixN (nm q) (nms (vb P)) = i at hget hil
      rw [nI_clamp (n := i) (by omega)]
      have v4 : vp_in (nI i) 4 := pk_in i 4 (by omega)
      refine ⟨v4, ?_⟩
      rcases he.2.2.1 i hil with ⟨b1, b2⟩ | ⟨y, py, b1, b2, b3, b4, b5, b6, b7⟩
      · rw [b2]
        refine ⟨fun _ => ?_, fun z => absurd (by decide) z⟩
        exact m_free (d := d) hW hi0 hX hY hk34 hkX hkY hm hgr (by omega) (by omega) he hget qC hq0 b1 hgood hpre (by omega) H
      · have hyl := b6.1
        have hyw := wf_pos (Can_wf b5)
        have hT := he.2.2.2.2.2.2.2.2.2
        rw [b2]
        refine ⟨fun z => absurd z (nI_pos (by omega)), fun _ => ⟨v4, ?_⟩⟩
        have force : ∀ M, SolG (nms (vb P)) Gs β M → asg (nms (vb P)) M (nm q) = y := fun M hM => asg_in he.2.1 hget (hM.2.2.1 i y b1 (by rw [hM.1]; exact hil))
        rw [show d + 3 * n + 46 = (d + 3 * n + 5) + 41 by omega]
        refine m_without (d := d + 3 * n + 5) hYC hYf hYs (by omega) hkY hm b5 b6 b3 (by omega) (fun m' hm' hperm => ⟨fun z => absurd z (nI_pos (by omega)), fun _ => ⟨v0, ?_⟩⟩) (fun hno => ⟨fun _ => H σ kW_rfl (res_none hpre fun M hM => ?_), fun z => absurd (by decide) z⟩)
        · rw [show (d + 3 * n + 5) + 41 = d + 3 * n + 46 by omega]
          have kp := kP_push (σ := σ) (G := G) (l1 := nI p) (l2 := nI s) (l3 := nI j) (l4 := nI m') (l5 := gA σ 16 i0)
          have pa := push_at (σ := σ) (G := G) (l1 := nI p) (l2 := nI s) (l3 := nI j) (l4 := nI m') (l5 := gA σ 16 i0)
          have hmx : mus (Sum.inr (k, (pts X).take j, unm (pts Y) m') :: Gs) = 3 * ((pts X).take j).flatten.length + 1 + mus Gs := rfl
          have hsol : ∀ M, SolG (nms (vb P)) (Sum.inr (k, (pts X).take j, unm (pts Y) m') :: Gs) β M ↔ SolG (nms (vb P)) (Sum.inr (k, (pts X).take j ++ [q], unm (pts Y) m) :: Gs) β M := fun M => by
            rw [SolG_cons, SolG_cons]
            have eqn : SolG (nms (vb P)) Gs β M → (satG (asg (nms (vb P)) M) (Sum.inr (k, (pts X).take j, unm (pts Y) m')) ↔ satG (asg (nms (vb P)) M) (Sum.inr (k, (pts X).take j ++ [q], unm (pts Y) m))) := fun hM => by
              rw [sat_varP qC hq0, force M hM]
              show (flK k (((pts X).take j).map (sub (asg (nms (vb P)) M)))).Perm (unm (pts Y) m') ↔ _
              exact ⟨fun h => ((List.perm_append_left_iff _).mpr h).trans hperm.symm, fun h => (List.perm_append_left_iff _).mp (h.trans hperm)⟩
            exact ⟨fun z => ⟨z.1, (eqn z.1).mp z.2⟩, fun z => ⟨z.1, (eqn z.1).mpr z.2⟩⟩
          refine m_goal (d := d + 3 * n + 45) h26 (by omega) ?_
          rw [show d + 3 * n + 46 = (d + 1) + 3 * n + 45 by omega]
          refine hW (d + 1) (Sum.inr (k, (pts X).take j, unm (pts Y) m') :: Gs) β T (G + 1) F _ _ _ (by rw [hmx]; omega) (kP_env he kp pa.2.2.2.2.2) ⟨G, by omega, rfl, ⟨p, s, j, m', X, Y, pa.1, pa.2.1, pa.2.2.1, pa.2.2.2.1, kP_okP hX kp, kP_okT hY kp, hk34, hkX, hkY, by omega, rfl, hm', rfl⟩, by rw [pa.2.2.2.2.1]; exact kP_gIn (gIn_le hgr (by omega)) kp⟩ (fun M hM => hgood M ((hsol M).mp hM)) (pre_kP hpre kp) (by rw [hmx]; omega) fun τ k1 k2 => ?_
          exact H _ (kW_close kp k1 (by omega) h26) (res_26 (res_eq k2 hsol))
        · obtain ⟨h1, h2⟩ := SolG_cons.mp hM
          rw [sat_varP qC hq0, force M h1] at h2
          exact hno _ h2.symm
    · exact m_nonvar (d := d) hW hi0 hX hY hk34 hkX hkY hm hgr (by omega) qo hq0 qk (by omega) he hgood hpre (by omega) H
/-- work: all the goals, by induction on their size -/
theorem m_work (hP : Can P) : ∀ n, WS P t n
  | 0 => by
    intro d Gs β T G F σ g Q hmu he hg hgood hpre hG H
    have hG0 : Gs = [] := by
      cases Gs with
      | nil => rfl
      | cons q r =>
        exfalso
        obtain ⟨i, _, _, hn, _⟩ := hg
        cases q with
        | inl q =>
          obtain ⟨_, _, _, _, _, hx, _⟩ := hn
          have := wf_pos (Can_wf hx.1)
          simp only [mus, mu1] at hmu
          omega
        | inr q =>
          simp only [mus, mu1] at hmu
          omega
    subst hG0
    have eg : g = -1 := hg
    rw [eg, show d + 3 * 0 + 45 = (d + 44) + 1 by omega]
    refine vX11_work ⟨fun h0 => ⟨fun z => absurd z (by decide), fun _ => ?_⟩, fun h0 => ?_⟩
    · cases F with
      | none => have h : manyM P t σ := hpre; rw [h.1] at h0; exact absurd h0 (by decide)
      | some E =>
        rw [show d + 44 = (d + 2) + 42 by omega]
        exact m_foundM (d := d + 2) hP rfl he hgood hpre H
    · cases F with
      | none => exact H σ kW_rfl (Or.inl hpre)
      | some E => have h : okM P t E σ := hpre; exact absurd h.1 h0
  | n + 1 => by
    have hW := m_work hP n
    intro d Gs β T G F σ g Q hmu he hg hgood hpre hG H
    rw [show d + 3 * (n + 1) + 45 = (d + 3 * n + 47) + 1 by omega]
    refine vX11_work ⟨fun h0 => ?_, fun h0 => ?_⟩
    · cases Gs with
      | nil =>
        have eg : g = -1 := hg
        rw [eg]
        refine ⟨fun z => absurd z (by decide), fun _ => ?_⟩
        cases F with
        | none => have h : manyM P t σ := hpre; rw [h.1] at h0; exact absurd h0 (by decide)
        | some E =>
          rw [show d + 3 * n + 47 = (d + 3 * n + 5) + 42 by omega]
          exact m_foundM (d := d + 3 * n + 5) hP rfl he hgood hpre H
      | cons q r =>
        obtain ⟨i, hi, eg, hn, hr⟩ := hg
        have v0 : vp_in (nI i) 4000 := pk_in i 4000 (by omega)
        rw [eg, nI_clamp (n := i) (by omega)]
        refine ⟨fun _ => ⟨v0, ?_⟩, fun z => absurd (nI_pos' (by omega)) z⟩
        cases q with
        | inl q =>
          obtain ⟨p, s, a1, a2, a3, a4, a5⟩ := hn
          have hm1 : mus (Sum.inl q :: r) = 3 * q.1.length + mus r := rfl
          rw [a3]
          refine ⟨fun z => absurd z (by decide), fun _ => ⟨v0, v0, v0, ?_⟩⟩
          rw [a1, a2, show d + 3 * n + 47 = (d + 1) + 3 * n + 46 by omega]
          exact m_solveOne (d := d + 1) hW a4 a5 (by omega) he (gIn_le hr (by omega)) hgood hpre (by omega) H
        | inr q =>
          obtain ⟨k, L, R⟩ := q
          have hm1 : mus (Sum.inr (k, L, R) :: r) = 3 * L.flatten.length + 1 + mus r := rfl
          obtain ⟨p, s, j, m, X, Y, a1, a2, a3, a4, a5⟩ := id hn
          have hj8 := (fits_pts a5.1.1 a5.1.2.1).1
          have hjl := a5.2.2.2.2.2.1
          rw [a3]
          refine ⟨fun _ => ?_, fun z => absurd (nI_pos' (by omega)) z⟩
          exact m_solveParts (d := d) hW hi hn hr (by omega) he hgood hpre (by omega) H
    · cases F with
      | none => exact H σ kW_rfl (Or.inl hpre)
      | some E => have h : okM P t E σ := hpre; exact absurd h.1 h0
end MWK
