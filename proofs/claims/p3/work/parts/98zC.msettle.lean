/-! ===== takesBound, placesLast, settled ===== -/
section MS
variable {D M : List Tm} {f : Nat}
theorem Fr_25 {τ : am_S} {p : Nat} {x : Tm} {v : Int64} (hM : M.length ≤ 40) (hx : M[p]? = some x) (hF : Fr D M f τ) (hR : Rg D (wJ τ 25 (40 * f + p) v) f p x) : Fr D M f (wJ τ 25 (40 * f + p) v) := by
  refine ⟨fun q z hz => ?_, fun j hj => by rw [wJ_ne (by omega)]; exact hF.2 j hj⟩
  obtain ⟨b, k, c1, c2, c3, c4, c5⟩ := hF.1 q z hz
  refine ⟨b, k, c1, c2, c3, c4, fun hb => ?_⟩
  by_cases e : q = p
  · subst e
    rw [hx] at hz
    have ez : x = z := Option.some.inj hz
    rw [← ez]
    exact hR
  · obtain ⟨r1, l, r2, r3, r4⟩ := c5 hb
    exact ⟨r1, l, r2, r3, by rw [wJ_ne (by omega)]; exact r4⟩
theorem Fr_24 {τ : am_S} {p b' k : Nat} {x : Tm} (hx : M[p]? = some x) (hF : Fr D M f τ) (hk : gA τ 22 p = nI k) (hk8 : k ≤ 8) (hb : b' < 2 ^ k) (hR : b' ≠ 0 → Rg D τ f p x) : Fr D M f (wA τ 24 (40 * f + p) (nI b')) := by
  refine ⟨fun q z hz => ?_, fun j hj => hF.2 j hj⟩
  by_cases e : q = p
  · subst e
    rw [hx] at hz
    have ez : x = z := Option.some.inj hz
    subst ez
    exact ⟨b', k, by rw [wA_ne (by omega)]; exact hk, hk8, by rw [wA_at], hb, fun h => hR h⟩
  · obtain ⟨b, k', c1, c2, c3, c4, c5⟩ := hF.1 q z hz
    exact ⟨b, k', by rw [wA_ne (by omega)]; exact c1, c2, by rw [wA_ne (by omega)]; exact c3, c4, fun h => c5 h⟩
theorem x_takesBound {σ : am_S} {p d : Nat} {x : Tm} {Q : Int32 → am_S → Prop} (hC : Cx D M σ) (hF : Fr D M f σ) (hf : f ≤ 40) (hx : M[p]? = some x) (hR : Rg D σ f p x) (H : ∀ w τ, w = 0 ∨ w = 1 → fN f σ τ → (w = 1 → Fr D M f τ ∧ Rg D τ f p x) → Q w τ) : am_K ri am_Lx IX3_takesBound (d + 4) [.ref 11, .int (nI f), .int (nI p)] σ Q := by
  obtain ⟨hcx, hfx, hp40, t, m, fs, k, id, lg, a1, a2, a3, a4, a5, a6, a7, a8, a9, a10, a11, a12, a13, a14, a15, a16⟩ := Cx_node hC hx
  have hM := hC.2.2
  have hx4 := kd4 hcx
  have hvp : vp_in (nI p) 40 := vp_in_nI hp40 (by omega)
  have hv : vp_in (nI (40 * f + p)) 1640 := vp_in_nI (by omega) (by omega)
  have hcl : (nI (40 * f + p)).toNatClampNeg = 40 * f + p := nI_clamp (by omega)
  have loop : ∀ (c j : Nat) (τ : am_S), j + c = k → fN f σ τ → Fr D M f τ → Rg D τ f p x → am_X ri am_Lx IX3_takesBound (d + 3 + 1) 10 [some (.ref 11), some (.int (nI f)), some (.int (nI p)), some (.int (nI (40 * f + p))), some (.int (nI j)), none, none, none, none, none] [] τ Q := by
    intro c
    induction c with
    | zero =>
      intro j τ hj g hFτ hRτ
      refine vX3_takesBound_10 ⟨hvp, ?_⟩
      rw [nI_clamp (n := p) (by omega), g.1.2.1 22 (by decide), a7]
      exact ⟨fun _ => H 1 τ (Or.inr rfl) g (fun _ => ⟨hFτ, hRτ⟩), fun z => absurd (nI_le (by omega) (by omega)) z⟩
    | succ c ih =>
      intro j τ hj g hFτ hRτ
      have hCτ := Cx_fN hC g
      have hqM : fs + j < M.length := by omega
      obtain ⟨hcz, hfz, -, u, m', fs', k', id', l', e1, e2, e3, e4, e5, -⟩ := Cx_node hCτ (List.getElem?_eq_getElem hqM)
      obtain ⟨bz, bz1, bz2, -⟩ := kd_Rp hcz e2
      have next := ih (j + 1) τ (by omega) g hFτ hRτ
      rw [← nI_1] at next
      have hvq : vp_in (nI (fs + j)) 40 := vp_in_nI (by omega) (by omega)
      -- what is put for a VARIABLE goes from the row, as often as it stands there
      have go : ∀ v, gv D v → ∀ (c' n : Nat) (υ : am_S), n + c' = m' → fN f σ υ → Fr D M f υ → Rg D υ f p x → am_X ri am_Lx IX3_takesBound (d + 3 + 1) 109 [some (.ref 11), some (.int (nI f)), some (.int (nI p)), some (.int (nI (40 * f + p))), some (.int (nI j)), some (.int (nI (fs + j))), some (.ref u), some (.long v), none, some (.int (nI n))] [] υ Q := by
        intro v hgv c'
        induction c' with
        | zero =>
          intro n υ hn g2 hF2 hR2
          have h19 : gA υ 19 (fs + j) = nI m' := by rw [g2.1.2.1 19 (by decide), ← g.1.2.1 19 (by decide)]; exact e3
          refine vX3_takesBound_109 ⟨hvq, ?_⟩
          rw [nI_clamp (n := fs + j) (by omega), h19, hcl]
          refine ⟨fun _ => ⟨hv, hv, ?_⟩, fun z => absurd (nI_le (by omega) (by omega)) z⟩
          obtain ⟨b, kk, c1, c2, c3, c4, c5⟩ := hF2.1 p x hx
          have hkk := pk_le8 c2
          obtain ⟨b', hb', eb⟩ := nx_andX (b := b) (by omega) (((1 : Int32) <<< (nI j &&& 31)) ^^^ (-1 : Int32))
          rw [c3, eb, nI_1]
          exact ih (j + 1) _ (by omega) (fN_24 g2 (by omega)) (Fr_24 hx hF2 c1 c2 (by omega) (fun _ => hR2)) hR2
        | succ c' ih2 =>
          intro n υ hn g2 hF2 hR2
          have h19 : gA υ 19 (fs + j) = nI m' := by rw [g2.1.2.1 19 (by decide), ← g.1.2.1 19 (by decide)]; exact e3
          obtain ⟨r34, l, r2, r3, r4⟩ := hR2
          refine vX3_takesBound_109 ⟨hvq, ?_⟩
          rw [nI_clamp (n := fs + j) (by omega), h19, hcl, r4]
          refine ⟨fun z => absurd z (nI_ge (by omega) (by omega)), fun _ => ⟨hv, x_less (d := d) (Cx_fN hC g2).1 hx4 r2 hgv fun o ho => ⟨hv, hv, ?_⟩⟩⟩
          rw [wJ_at]
          cases o with
          | none => exact ⟨fun z => absurd (by decide : lg_cmp (-1 : Int64) (-1) = 0) z, fun _ => H 0 _ (Or.inl rfl) (fN_25 g2 (by omega)) (fun z => absurd z (by decide))⟩
          | some r =>
            have hs := ho r rfl
            refine ⟨fun _ => ?_, fun z => absurd z (cmp_miss hx4 (idl_rG (idl_sub r2 hs) hC.1.2.1))⟩
            have hR3 : Rg D (wJ υ 25 (40 * f + p) (rO (kd x) (some r))) f p x := ⟨r34, r, idl_sub r2 hs, r3.sublist hs, by rw [wJ_at]; rfl⟩
            rw [nI_1]
            exact ih2 (n + 1) _ (by omega) (fN_25 g2 (by omega)) (Fr_25 hM hx hF2 hR3) hR3
      refine vX3_takesBound_10 ⟨hvp, ?_⟩
      rw [nI_clamp (n := p) (by omega), g.1.2.1 22 (by decide), g.1.2.1 21 (by decide), a7, a6, nI_add, nI_clamp (n := fs + j) (by omega)]
      refine ⟨fun z => absurd z (nI_ge (by omega) (by omega)), fun _ => ⟨hvp, hvq, o_s e1 ⟨Rp_T e2, fun _ => ⟨hv, fun _ => next, fun _ => ⟨fun _ => next, fun z => absurd (by decide : lg_cmp (0 : Int64) 0 = 0) z⟩⟩, fun _ => ⟨Rp_T e2, x_rank (d := d + 1) fun r hr => ⟨?_, hv, fun _ => next, fun _ => ⟨fun _ => next, fun _ => ?_⟩⟩⟩⟩⟩⟩
      · rw [ix4]
        exact vp_in_nI (by omega) (by omega)
      · rw [ix4, nI_clamp (n := 4 * f + r) (by omega)]
        exact go _ (hFτ.2 r hr) m' 0 τ (by omega) g hFτ hRτ
  refine vX3_takesBound ?_
  rw [ix40]
  exact loop k 0 σ (by omega) fN_rfl hF hR
theorem bc0 {σ : am_S} {d : Nat} {Q : Int32 → am_S → Prop} {b : Nat} (H : ∀ v : Int32, (v = 1 → b ≠ 0) → Q v σ) : am_K ri am_Lx IJ6_bitCount_0f7a4 (d + 1) [.int (nI b)] σ Q := by
  refine vJ6_bitCount_0f7a4 (H _ fun e hb => ?_)
  subst hb
  exact absurd e (by decide)
theorem x_placesLast {σ : am_S} {p d : Nat} {x : Tm} {Q : Int32 → am_S → Prop} (hC : Cx D M σ) (hF : Fr D M f σ) (hf : f ≤ 40) (hx : M[p]? = some x) (hR : Rg D σ f p x) (H : ∀ w τ, w = 0 ∨ w = 1 → fN f σ τ → (w = 1 → Fr D M f τ) → Q w τ) : am_K ri am_Lx IX3_placesLast (d + 45) [.ref 11, .int (nI f), .int (nI p)] σ Q := by
  obtain ⟨hcx, hfx, hp40, t, m, fs, k, id, lg, a1, a2, a3, a4, a5, a6, a7, a8, a9, a10, a11, a12, a13, a14, a15, a16⟩ := Cx_node hC hx
  have hM := hC.2.2
  have hD40 := hC.1.2.1
  have hx4 := kd4 hcx
  have hvp : vp_in (nI p) 40 := vp_in_nI hp40 (by omega)
  have hv : vp_in (nI (40 * f + p)) 1640 := vp_in_nI (by omega) (by omega)
  have hcl : (nI (40 * f + p)).toNatClampNeg = 40 * f + p := nI_clamp (by omega)
  obtain ⟨r34, l, r2, r3, r4⟩ := hR
  have hgl := idl_rG r2 hD40
  have hl8 := hgl.1
  obtain ⟨b, k2, c1, c2, c3, c4, c5⟩ := hF.1 p x hx
  have hk2 : k2 = k := by
    rw [a7] at c1
    exact ((nI_eq (by omega) (by omega)).mp c1).symm
  subst hk2
  have hb256 := pk_le8 c2
  have done0 : Q 0 σ := H 0 σ (Or.inl rfl) fN_rfl (fun z => absurd z (by decide))
  have done1 : Q 1 σ := H 1 σ (Or.inr rfl) fN_rfl (fun _ => hF)
  -- behind the loop
  have fin : ∀ (la l6 : Int32) (nd : Nat), nd ≤ l.length → (b ≠ 0 → ∃ j', j' < k2 ∧ la = nI (fs + j') ∧ 1 ≤ nd) → am_X ri am_Lx IX3_placesLast (d + 44 + 1) 140 [some (.ref 11), some (.int (nI f)), some (.int (nI p)), some (.int (nI (40 * f + p))), some (.int (nI nd)), some (.int la), some (.int l6), some (.int (nI l.length)), none, none] [] σ Q := by
    intro la l6 nd hnd hla
    refine vX3_placesLast_140 ⟨hv, ?_⟩
    rw [hcl, c3]
    refine bc0 (d := d + 43) fun v hv1 => ⟨fun e => ?_, fun _ => done1⟩
    obtain ⟨j', hj', rfl, hnd1⟩ := hla (hv1 e)
    have hqM : fs + j' < M.length := by omega
    obtain ⟨hcz, hfz, -, u, m', fs', k', id', l', e1, e2, e3, e4, e5, -⟩ := Cx_node hC (List.getElem?_eq_getElem hqM)
    have hvq : vp_in (nI (fs + j')) 40 := vp_in_nI (by omega) (by omega)
    refine ⟨hv, hv, hvq, ?_⟩
    rw [nI_clamp (n := fs + j') (by omega), e3, r4]
    have g1 : fN f σ (wA σ 24 (40 * f + p) 0) := fN_24 fN_rfl (by omega)
    have hF1 : Fr D M f (wA σ 24 (40 * f + p) 0) := Fr_24 (b' := 0) hx hF a7 c2 (Nat.two_pow_pos _) (fun z => absurd rfl z)
    have hC1 := Cx_fN hC g1
    refine r_divided (d := d + 41) hx4 hgl e4 (by omega) fun mm hmm hmt hma => r_size (d := d + 43) hx4 hmm ?_
    have e3' : gA (wA σ 24 (40 * f + p) 0) 19 (fs + j') = nI m' := by rw [wA_ne (by omega)]; exact e3
    rw [e3', pk_mul]
    have hm8 := hmm.1
    have hidm : idl D mm := ⟨hm8, fun a ha => r2.2 a (dvP_mem (hma a ha))⟩
    refine ⟨hvq, fun hs => ⟨fun _ => ?_, fun _ => ⟨hvq, o_s (show gP (wA σ 24 (40 * f + p) 0) 17 (fs + j') = some u from e1) ⟨Rp_T (Rp_fM (fN_M g1) e2), x_rank (d := d + 42) fun r hr => x_valueOf (d := d + 42) hC1.1 hx4 hidm (fun _ => r34) fun w hw => x_bound (d := d + 43) hF1 hf hr hw fun z τ hz g2 hF2 => ⟨hz, H z τ hz (fN_trans g1 g2) (fun _ => hF2)⟩⟩⟩⟩, fun _ => H 0 _ (Or.inl rfl) g1 (fun z => absurd z (by decide))⟩
    have hprod : mm.length * m' ≤ 8 * 400 := Nat.mul_le_mul hm8 e5
    have hs2 : mm.length * m' = l.length := (nI_eq (by omega) (by omega)).mp hs
    have hpos : 0 < mm.length := by
      rcases Nat.eq_zero_or_pos mm.length with w | w
      · rw [w, Nat.zero_mul] at hs2
        omega
      · exact w
    refine r_at (i := 0) (d := d + 43) hx4 hmm hpos ?_
    obtain ⟨o1, o2⟩ := hidm.2 _ (List.getElem_mem hpos)
    obtain ⟨i', hi'⟩ : ∃ i', mm[0] = i' + 1 := ⟨mm[0] - 1, by omega⟩
    have hiD : i' < D.length := by omega
    rw [hi']
    exact x_assigned hf 40 0 (by omega) (fs + j') i' d M[fs + j'] D[i'] _ _ hC1 hF1 (List.getElem?_eq_getElem hqM) (List.getElem?_eq_getElem hiD) (fun z τ hz g2 hF2 => ⟨hz, H z τ hz (fN_trans g1 g2) hF2⟩)
  have loop : ∀ (c j nd : Nat) (la l6 : Int32), j + c = k2 → nd ≤ 400 * j → ((∀ i, i < j → b.testBit i = false) ∨ ∃ j', j' < k2 ∧ la = nI (fs + j') ∧ 1 ≤ nd) → am_X ri am_Lx IX3_placesLast (d + 44 + 1) 19 [some (.ref 11), some (.int (nI f)), some (.int (nI p)), some (.int (nI (40 * f + p))), some (.int (nI nd)), some (.int la), some (.int l6), some (.int (nI j)), none, none] [] σ Q := by
    intro c
    induction c with
    | zero =>
      intro j nd la l6 hj hnd hinv
      have hla : b ≠ 0 → ∃ j', j' < k2 ∧ la = nI (fs + j') ∧ 1 ≤ nd := fun hb => by
        rcases hinv with w | w
        · refine absurd (Nat.eq_of_testBit_eq fun i => ?_) hb
          rw [Nat.zero_testBit]
          rcases Nat.lt_or_ge i j with y | y
          · exact w i y
          · exact Nat.testBit_lt_two_pow (Nat.lt_of_lt_of_le c4 (Nat.pow_le_pow_right (by decide) (by omega)))
        · exact w
      refine vX3_placesLast_19 ⟨hvp, ?_⟩
      rw [nI_clamp (n := p) (by omega), a7, hcl, r4]
      refine ⟨fun _ => ⟨hv, r_size (d := d + 43) hx4 hgl ⟨fun _ => done0, fun z => ?_⟩⟩, fun z => absurd (nI_le (by omega) (by omega)) z⟩
      have hle : nd ≤ l.length := by
        rcases Nat.lt_or_ge l.length nd with y | y
        · exact absurd (nI_lt y (by omega)) z
        · exact y
      exact ⟨fun _ => fin la l6 nd hle hla, fun _ => ⟨fun _ => fin la l6 nd hle hla, fun _ => done0⟩⟩
    | succ c ih =>
      intro j nd la l6 hj hnd hinv
      have hqM : fs + j < M.length := by omega
      obtain ⟨hcz, hfz, -, u, m', fs', k', id', l', e1, e2, e3, e4, e5, -⟩ := Cx_node hC (List.getElem?_eq_getElem hqM)
      have hvq : vp_in (nI (fs + j)) 40 := vp_in_nI (by omega) (by omega)
      refine vX3_placesLast_19 ⟨hvp, ?_⟩
      rw [nI_clamp (n := p) (by omega), a7, hcl, c3, a6, nI_add, nI_clamp (n := fs + j) (by omega), e3, nI_add, nI_1]
      refine ⟨fun z => absurd z (nI_ge (by omega) (by omega)), fun _ => ⟨hv, fun z => ?_, fun z => ⟨hvp, hvq, hvq, o_s e1 ⟨Rp_T e2, fun _ => ih (j + 1) (nd + m') _ _ (by omega) (by omega) (Or.inr ⟨j, by omega, rfl, by omega⟩), fun _ => ih (j + 1) (nd + m') _ _ (by omega) (by omega) (Or.inr ⟨j, by omega, rfl, by omega⟩)⟩⟩⟩⟩
      refine ih (j + 1) nd la l6 (by omega) (by omega) ?_
      rcases hinv with w | w
      · refine Or.inl fun i hi => ?_
        by_cases e : i = j
        · subst e
          exact (nx_tb0 (by omega) (by omega)).mp z
        · exact w i (by omega)
      · exact Or.inr w
  refine vX3_placesLast ?_
  rw [ix40]
  exact loop k2 0 0 (-1) 0 (by omega) (by omega) (Or.inl fun i hi => by omega)
theorem x_settled {σ : am_S} {d : Nat} {Q : Int32 → am_S → Prop} (hC : Cx D M σ) (hF : Fr D M f σ) (hf : f ≤ 40) (H : ∀ w τ, w = 0 ∨ w = 1 → fN f σ τ → (w = 1 → Fr D M f τ) → Q w τ) : am_K ri am_Lx IX3_settled (d + 46) [.ref 11, .int (nI f)] σ Q := by
  have hM := hC.2.2
  have outer : ∀ (R r : Nat) (l2 : Int32) (τ : am_S), r + R = 41 → fN f σ τ → Fr D M f τ → am_X ri am_Lx IX3_settled (d + 45 + 1) 4 [some (.ref 11), some (.int (nI f)), some (.int l2), some (.int (nI r)), none, none] [] τ Q := by
    intro R
    induction R with
    | zero =>
      intro r l2 τ hr g hFτ
      exact vX3_settled_4 ⟨fun _ => H 1 τ (Or.inr rfl) g (fun _ => hFτ), fun _ => ⟨fun _ => H 1 τ (Or.inr rfl) g (fun _ => hFτ), fun z => absurd (nI_lt (a := 40) (b := r) (by omega) (by omega)) z⟩⟩
    | succ R ihR =>
      intro r l2 τ hr g hFτ
      refine vX3_settled_4 ⟨fun _ => H 1 τ (Or.inr rfl) g (fun _ => hFτ), fun _ => ⟨fun _ => H 1 τ (Or.inr rfl) g (fun _ => hFτ), fun _ => ?_⟩⟩
      have inner : ∀ (c p : Nat) (l2 : Int32) (υ : am_S), p + c = M.length → fN f σ υ → Fr D M f υ → am_X ri am_Lx IX3_settled (d + 45 + 1) 19 [some (.ref 11), some (.int (nI f)), some (.int l2), some (.int (nI r)), some (.int (nI p)), none] [] υ Q := by
        intro c
        induction c with
        | zero =>
          intro p l2 υ hp g2 hF2
          refine vX3_settled_19 ?_
          rw [(Cx_fN hC g2).2.1.1, nI_1]
          exact ⟨fun _ => ihR (r + 1) l2 υ (by omega) g2 hF2, fun z => absurd (nI_le (by omega) (by omega)) z⟩
        | succ c ihc =>
          intro p l2 υ hp g2 hF2
          have hpl : p < M.length := by omega
          have hx := List.getElem?_eq_getElem hpl
          have hC2 := Cx_fN hC g2
          obtain ⟨b, k, c1, c2, c3, c4, c5⟩ := hF2.1 p _ hx
          have hb256 := pk_le8 c2
          have hv : vp_in (nI (40 * f + p)) 1640 := vp_in_nI (by omega) (by omega)
          refine vX3_settled_19 ?_
          rw [hC2.2.1.1, nI_1 r, nI_1 p, ix40, nI_clamp (by omega), c3]
          refine ⟨fun z => absurd z (nI_ge (by omega) (by omega)), fun _ => ⟨hv, fun _ => ihc (p + 1) l2 υ (by omega) g2 hF2, fun hb => ?_⟩⟩
          have hb0 : b ≠ 0 := fun e => hb (by rw [e]; rfl)
          refine x_takesBound (d := d + 41) hC2 hF2 hf hx (c5 hb0) fun w τ1 hw g3 hpost => ⟨fun e => ?_, fun e => ?_⟩
          · rw [e] at hw hpost
            exact H 0 τ1 (Or.inl rfl) (fN_trans g2 g3) (fun z => absurd z (by decide))
          · have hw1 : w = 1 := hw.resolve_left e
            obtain ⟨hF3, hR3⟩ := hpost hw1
            refine x_placesLast (d := d) (Cx_fN hC2 g3) hF3 hf hx hR3 fun w2 τ2 hw2 g4 hF4 => ⟨fun e2 => ⟨hv, fun _ => ihc (p + 1) _ τ2 (by omega) (fN_trans g2 (fN_trans g3 g4)) (hF4 (hw2.resolve_left e2)), fun _ => ihc (p + 1) _ τ2 (by omega) (fN_trans g2 (fN_trans g3 g4)) (hF4 (hw2.resolve_left e2))⟩, fun e2 => H 0 τ2 (Or.inl rfl) (fN_trans g2 (fN_trans g3 g4)) (fun z => absurd z (by decide))⟩
      exact inner M.length 0 0 τ (by omega) g hFτ
  exact vX3_settled (outer 41 0 1 σ (by omega) fN_rfl hF)
end MS
