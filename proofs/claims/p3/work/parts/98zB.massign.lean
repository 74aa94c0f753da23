/-! ===== copy, assigned ===== -/
theorem nx_andX {b : Nat} (hb : b < 2 ^ 31) (X : Int32) : ∃ b', b' ≤ b ∧ nI b &&& X = nI b' := by
  refine ⟨b &&& X.toBitVec.toNat, Nat.and_le_left, ?_⟩
  apply Int32.toBitVec_inj.mp
  apply BitVec.eq_of_toNat_eq
  show ((nI b).toBitVec &&& X.toBitVec).toNat = _
  have h : b &&& X.toBitVec.toNat ≤ b := Nat.and_le_left
  rw [BitVec.toNat_and, pk_tn (by omega), pk_tn (by omega)]
theorem nx_full {k : Nat} (hk : k ≤ 8) : ((1 : Int32) <<< (nI k &&& 31)) - 1 = nI (2 ^ k - 1) := by
  rw [nx_1shl (by omega)]
  obtain ⟨m, hm⟩ : ∃ m, 2 ^ k = m + 1 := ⟨2 ^ k - 1, by have := Nat.two_pow_pos k; omega⟩
  rw [hm, nI_pred, Nat.add_sub_cancel]
theorem pk_le8 {k : Nat} (hk : k ≤ 8) : 2 ^ k ≤ 256 := Nat.pow_le_pow_right (by decide) hk
section MA
variable {D M : List Tm} {f : Nat}
/-- what is fixed of a TERM of the PATTERN -/
theorem Cx_node {σ : am_S} {p : Nat} {x : Tm} (hC : Cx D M σ) (hx : M[p]? = some x) : Can x ∧ fits x ∧ p < 40 ∧ ∃ t m fs k id l, gP σ 17 p = some t ∧ Rp σ t x ∧ gA σ 19 p = nI m ∧ 1 ≤ m ∧ m ≤ 400 ∧ gA σ 21 p = nI fs ∧ gA σ 22 p = nI k ∧ fs + k ≤ M.length ∧ k ≤ (pts x).length ∧ k ≤ 8 ∧ (∀ c, fs ≤ c → c < fs + k → gA σ 20 c = nI p) ∧ gA σ 18 p = nI id ∧ id ≤ 40 ∧ gJ σ 23 p = lN (rE (kd x) l) ∧ rG l ∧ (kd x = 2 → id = 0 → k = (pts x).length) := by
  have hp := (List.getElem?_eq_some_iff.mp hx).1
  have h40 := hC.2.2
  obtain ⟨a1, a2, t, m, o, b1, b2, b3, b4, b5, -⟩ := hC.2.1.2.1 p x hx
  obtain ⟨fs, k, id, l, c1, c2, c3, c4, c5, c6, c7, c8, c9, c10⟩ := hC.2.1.2.2 p x hp hx
  have h8 := (fits_pts a1 a2).1
  exact ⟨a1, a2, by omega, t, m, fs, k, id, l, b1, b2, b3, b4, b5, c1, c2, c3, c4, by omega, c5, c6, c7, c8, c9, c10⟩
theorem x_copy {σ : am_S} {d : Nat} {Q : Unit → am_S → Prop} (hC : Cx D M σ) (hF : Fr D M f σ) (hf : f + 1 ≤ 40) (H : ∀ τ, fN (f + 1) σ τ → Fr D M (f + 1) τ → (∀ p, p < M.length → gA τ 24 (40 * (f + 1) + p) = gA σ 24 (40 * f + p) ∧ gJ τ 25 (40 * (f + 1) + p) = gJ σ 25 (40 * f + p)) → Q () τ) : am_K ru am_Lx IX3_copy (d + 1) [.ref 11, .int (nI f)] σ Q := by
  have hM := hC.2.2
  refine vX3_copy ?_
  have e1 : nI f * (40 : Int32) = nI (40 * f) := by
    show nI f * nI 40 = _
    rw [pk_mul, Nat.mul_comm]
  have e2 : nI (40 * f) + (40 : Int32) = nI (40 * f + 40) := nI_add _ 40
  have e3 : nI f * (4 : Int32) = nI (4 * f) := by
    show nI f * nI 4 = _
    rw [pk_mul, Nat.mul_comm]
  have e4 : (nI f + (1 : Int32)) * (4 : Int32) = nI (4 * f + 4) := by
    rw [nI_1]
    show nI (f + 1) * nI 4 = _
    rw [pk_mul]
    exact congrArg nI (by omega)
  have e5 : ((4 : Int32)).toNatClampNeg = 4 := rfl
  rw [e1, e2, e3, e4, e5, hC.2.1.1, nI_clamp (by omega), nI_clamp (by omega), nI_clamp (by omega), nI_clamp (by omega), nI_clamp (by omega)]
  refine ⟨nI_pos (by omega), nI_pos (by omega), nI_pos (by omega), by omega, by omega, nI_pos (by omega), nI_pos (by omega), nI_pos (by omega), by omega, by omega, nI_pos (by omega), nI_pos (by omega), by decide, by omega, by omega, ?_⟩
  generalize hτ : wJf (wJf (wAf σ 24 (va_cpy (gA σ 24) (gA σ 24) (40 * f) (40 * f + 40) M.length)) 25 (va_cpy (gJ σ 25) (gJ σ 25) (40 * f) (40 * f + 40) M.length)) 26 (va_cpy (gJ σ 26) (gJ σ 26) (4 * f) (4 * f + 4) 4) = τ
  have g24 : ∀ i, gA τ 24 i = if 40 * f + 40 ≤ i ∧ i < 40 * f + 40 + M.length then gA σ 24 (40 * f + (i - (40 * f + 40))) else gA σ 24 i := fun i => by
    rw [← hτ]
    show gA (wAf σ 24 _) 24 i = _
    rw [wAf_at]
    rfl
  have g25 : ∀ i, gJ τ 25 i = if 40 * f + 40 ≤ i ∧ i < 40 * f + 40 + M.length then gJ σ 25 (40 * f + (i - (40 * f + 40))) else gJ σ 25 i := fun i => by
    rw [← hτ, wJf_ne (by decide), wJf_at]
    rfl
  have g26 : ∀ i, gJ τ 26 i = if 4 * f + 4 ≤ i ∧ i < 4 * f + 4 + 4 then gJ σ 26 (4 * f + (i - (4 * f + 4))) else gJ σ 26 i := fun i => by
    rw [← hτ, wJf_at]
    rfl
  have hfr : fr [] [24] [25, 26] [] σ τ := by
    rw [← hτ]
    exact fr_wJf (fr_wJf (fr_wAf fr_rfl (by simp)) (by simp)) (by simp)
  have hcp : ∀ p, p < M.length → gA τ 24 (40 * (f + 1) + p) = gA σ 24 (40 * f + p) ∧ gJ τ 25 (40 * (f + 1) + p) = gJ σ 25 (40 * f + p) := fun p hp => by
    rw [g24, g25, if_pos ⟨by omega, by omega⟩, if_pos ⟨by omega, by omega⟩, show 40 * f + (40 * (f + 1) + p - (40 * f + 40)) = 40 * f + p by omega]
    exact ⟨rfl, rfl⟩
  refine H τ ⟨hfr, fun i hi => ⟨by rw [g24, if_neg (by omega)], by rw [g25, if_neg (by omega)]⟩, fun i hi => by rw [g26, if_neg (by omega)]⟩ ⟨fun p x hx => ?_, fun k hk => ?_⟩ hcp
  · have hp := (List.getElem?_eq_some_iff.mp hx).1
    obtain ⟨b, k, c1, c2, c3, c4, c5⟩ := hF.1 p x hx
    obtain ⟨h1, h2⟩ := hcp p hp
    refine ⟨b, k, by rw [hfr.2.1 22 (by decide)]; exact c1, c2, h1.trans c3, c4, fun hb => ?_⟩
    obtain ⟨r1, l, r2, r3, r4⟩ := c5 hb
    exact ⟨r1, l, r2, r3, h2.trans r4⟩
  · rw [g26, if_pos ⟨by omega, by omega⟩, show 4 * f + (4 * (f + 1) + k - (4 * f + 4)) = 4 * f + k by omega]
    exact hF.2 k hk
theorem x_assigned (hf : f ≤ 40) : ∀ (n dep : Nat), dep + n = 40 → ∀ (p i d : Nat) (x y : Tm) (σ : am_S) (Q : Int32 → am_S → Prop), Cx D M σ → Fr D M f σ → M[p]? = some x → D[i]? = some y → (∀ w τ, w = 0 ∨ w = 1 → fN f σ τ → (w = 1 → Fr D M f τ) → Q w τ) → am_K ri am_Lx IX3_assigned (d + n + 4) [.ref 11, .int (nI f), .int (nI p), .int (nI (i + 1)), .int (nI dep)] σ Q := by
  intro n
  induction n with
  | zero =>
    intro dep hdep p i d x y σ Q hC hF hx hy H
    obtain ⟨hcx, hfx, hp40, t, m, fs, k, id, lg, a1, a2, a3, a4, a5, a6, a7, a8, a9, a10, a11, a12, a13, a14, a15, a16⟩ := Cx_node hC hx
    have hD40 := hC.1.2.1
    have hi := (List.getElem?_eq_some_iff.mp hy).1
    obtain ⟨b, b1, b2, b3, b4⟩ := kd_Rp hcx a2
    have hvp : vp_in (nI p) 40 := vp_in_nI hp40 (by omega)
    have done0 : Q 0 σ := H 0 σ (Or.inl rfl) fN_rfl (fun z => absurd z (by decide))
    have done1 : Q 1 σ := H 1 σ (Or.inr rfl) fN_rfl (fun _ => hF)
    refine vX3_assigned ⟨hvp, fun _ => ⟨hvp, ?_⟩, fun _ => ⟨hvp, fun _ => done0, fun _ => done1⟩⟩
    rw [nI_clamp (by omega), nI_clamp (by omega)]
    refine o_s a1 ⟨Rp_T a2, fun _ => ⟨fun _ => done0, fun z => absurd (nI_le (a := 40) (b := dep) (by omega) (by omega)) z⟩, fun _ => ⟨Rp_T a2, x_rank (d := d + 1) fun r hr => ⟨vp_in_nI (by omega) (by omega), x_bound (d := d + 2) hF hf hr (Ins_gv hC.1 (by omega) (by omega)) fun w τ hw g hF' => ⟨hw, H w τ hw g (fun _ => hF')⟩⟩⟩⟩
  | succ n ih =>
    intro dep hdep p i d x y σ Q hC hF hx hy H
    obtain ⟨hcx, hfx, hp40, t, m, fs, k, id, lg, a1, a2, a3, a4, a5, a6, a7, a8, a9, a10, a11, a12, a13, a14, a15, a16⟩ := Cx_node hC hx
    have hD40 := hC.1.2.1
    have hi := (List.getElem?_eq_some_iff.mp hy).1
    obtain ⟨b, b1, b2, b3, b4⟩ := kd_Rp hcx a2
    obtain ⟨hcy, hfy⟩ := hC.1.1.2.2.2 y (List.mem_of_getElem? hy)
    have hx4 := kd4 hcx
    have hy4 := kd4 hcy
    have hvp : vp_in (nI p) 40 := vp_in_nI hp40 (by omega)
    have hvi : vp_in (nI (i + 1)) 64 := vp_in_nI (by omega) (by omega)
    have done0 : Q 0 σ := H 0 σ (Or.inl rfl) fN_rfl (fun z => absurd z (by decide))
    have done1 : Q 1 σ := H 1 σ (Or.inr rfl) fN_rfl (fun _ => hF)
    obtain ⟨l, hids, hrow, -⟩ := hC.1.2.2.2 i y hy
    have hidl : idl D l := ids_idl hids (fits_pts hcy hfy).1
    have hgl := idl_rG hidl hD40
    refine vX3_assigned ⟨hvp, fun hid0 => ⟨hvp, ?_⟩, fun _ => ⟨hvp, fun _ => done0, fun _ => done1⟩⟩
    rw [nI_clamp (by omega), a12] at hid0
    have hid : id = 0 := (nI_eq (b := 0) (by omega) (by decide)).mp hid0
    rw [nI_clamp (n := p) (by omega), nI_clamp (n := i + 1) (by omega)]
    refine o_s a1 ⟨Rp_T a2, fun hk0 => ⟨fun _ => done0, fun _ => x_alike (d := d + n + 3) hC hx hy ⟨fun z => absurd rfl z, fun _ => done0⟩ fun hk hk2 => ⟨fun _ => ⟨hvi, Rp_T a2, fun hn2 => ⟨hvp, ?_⟩, fun h2 => ?_⟩, fun z => absurd z (by decide)⟩⟩, fun _ => ⟨Rp_T a2, x_rank (d := d + n + 2) fun r hr => ⟨hvi, x_bound (d := d + n + 3) hF hf hr (Ins_gv hC.1 (by omega) (by omega)) fun w τ hw g hF' => ⟨hw, H w τ hw g (fun _ => hF')⟩⟩⟩⟩
    · -- a SUM or PRODUCT
      rw [hrow, a14]
      have hlk : lk y ≤ 4 := by
        unfold lk
        split
        · exact hy4
        · decide
      refine r_minus (d := d + n + 2) hlk hx4 hgl a15 ?_
      rw [ix40, nI_clamp (by omega), a7, nx_full a10]
      have hv : vp_in (nI (40 * f + p)) 1640 := vp_in_nI (by omega) (by omega)
      generalize hr3 : rO (lk y) (mns l lg) = r3
      have g : fN f σ (wA (wJ σ 25 (40 * f + p) r3) 24 (40 * f + p) (nI (2 ^ k - 1))) := fN_24 (fN_25 fN_rfl (by omega)) (by omega)
      refine ⟨hv, hvp, hv, fun _ => H 0 _ (Or.inl rfl) g (fun z => absurd z (by decide)), fun hne => H 1 _ (Or.inr rfl) g (fun _ => ⟨fun q z hz => ?_, fun j hj => ?_⟩)⟩
      · by_cases e : q = p
        · subst e
          rw [hx] at hz
          have ez : x = z := Option.some.inj hz
          subst ez
          have hpk := pk_le8 a10
          have h2p := Nat.two_pow_pos k
          refine ⟨2 ^ k - 1, k, by rw [wA_ne (by omega)]; exact a7, a10, by rw [wA_at], by omega, fun hb => ?_⟩
          have hk1 : 1 ≤ k := by
            rcases Nat.eq_zero_or_pos k with w | w
            · rw [w] at hb
              exact absurd rfl hb
            · exact w
          obtain ⟨-, hloc, -⟩ := Can_pts hcx
          have h34 : kd x = 3 ∨ kd x = 4 := by
            rcases hloc with w | w | w | w
            · rw [w.2.2] at a9
              exact absurd a9 (by simp; omega)
            · rw [w.2.2] at a9
              exact absurd a9 (by simp; omega)
            · rw [b1, w.1] at hn2
              exact absurd rfl hn2
            · exact w.1
          have hlk2 : lk y = kd x := by
            unfold lk
            rw [if_pos (by omega)]
            exact hk.symm
          cases hm : mns l lg with
          | none =>
            rw [hm] at hr3
            rw [← hr3] at hne
            exact absurd (by decide : lg_cmp (-1 : Int64) (-1) = 0) hne
          | some r =>
            have hsub := mns_sub hm
            obtain ⟨-, hlocy, -⟩ := Can_pts hcy
            have hsy : (pts y).Pairwise (fun x y => ¬ tlt y x) := by
              rcases hlocy with w | w | w | w
              · omega
              · omega
              · omega
              · exact w.2.2.2.1
            refine ⟨h34, r, idl_sub hidl hsub, (ids_srt hC.1.1.2.1 hids hsy).sublist hsub, ?_⟩
            show gJ (wJ σ 25 (40 * f + q) r3) 25 (40 * f + q) = _
            rw [wJ_at, ← hr3, hm, hlk2]
            rfl
        · obtain ⟨b', k', c1, c2, c3, c4, c5⟩ := hF.1 q z hz
          refine ⟨b', k', by rw [wA_ne (by omega)]; exact c1, c2, by rw [wA_ne (by omega)]; exact c3, c4, fun hb => ?_⟩
          obtain ⟨r1, l', r2, r3', r4⟩ := c5 hb
          refine ⟨r1, l', r2, r3', ?_⟩
          show gJ (wJ σ 25 (40 * f + p) r3) 25 (40 * f + q) = _
          rw [wJ_ne (by omega)]
          exact r4
      · show gv D (gJ (wJ σ 25 (40 * f + p) r3) 26 (4 * f + j))
        rw [wJ_ne (by omega)]
        exact hF.2 j hj
    · -- a FUNCTION
      have hkx : kd x = 2 := by
        rw [b1] at h2
        exact (nI_eq (b := 2) (by omega) (by decide)).mp h2
      have hkl : k = l.length := by rw [a16 hkx hid, hk2 hkx, hids.1]
      have hlk0 : lk y = 0 := if_neg (by omega)
      rw [hrow, hlk0]
      have loop : ∀ (c j : Nat) (τ : am_S), j + c = k → fN f σ τ → Fr D M f τ → am_X ri am_Lx IX3_assigned (d + (n + 1) + 3 + 1) 121 [some (.ref 11), some (.int (nI f)), some (.int (nI p)), some (.int (nI (i + 1))), some (.int (nI dep)), some (.ref t), some (.long (lN (rE 0 l))), none, some (.int (1 : Int32)), some (.int (nI j)), none] [] τ Q := by
        intro c
        induction c with
        | zero =>
          intro j τ hj g hFτ
          refine vX3_assigned_121 ⟨fun z => absurd z (by decide), fun _ => ⟨hvp, ?_⟩⟩
          rw [nI_clamp (by omega), g.1.2.1 22 (by decide), a7]
          exact ⟨fun _ => ⟨Or.inr rfl, H 1 τ (Or.inr rfl) g (fun _ => hFτ)⟩, fun z => absurd (nI_le (by omega) (by omega)) z⟩
        | succ c ihc =>
          intro j τ hj g hFτ
          have hCτ := Cx_fN hC g
          refine vX3_assigned_121 ⟨fun z => absurd z (by decide), fun _ => ⟨hvp, ?_⟩⟩
          rw [nI_clamp (by omega), g.1.2.1 22 (by decide), g.1.2.1 21 (by decide), a7, a6, nI_add]
          have hjl : j < l.length := by omega
          refine ⟨fun z => absurd z (nI_ge (by omega) (by omega)), fun _ => ⟨hvp, r_at (d := d + n + 3) (by decide) hgl hjl ?_⟩⟩
          obtain ⟨o1, o2⟩ := hidl.2 _ (List.getElem_mem hjl)
          obtain ⟨i', hi'⟩ : ∃ i', l[j] = i' + 1 := ⟨l[j] - 1, by omega⟩
          have hiD : i' < D.length := by omega
          have hqM : fs + j < M.length := by omega
          rw [hi', nI_1]
          have key := ih (dep + 1) (by omega) (fs + j) i' d M[fs + j] D[i'] τ (fun r2 σ2 => am_X ri am_Lx IX3_assigned (d + (n + 1) + 3 + 1) 121 [some (.ref 11), some (.int (nI f)), some (.int (nI p)), some (.int (nI (i + 1))), some (.int (nI dep)), some (.ref t), some (.long (lN (rE 0 l))), none, some (.int r2), some (.int (nI j + (1 : Int32))), none] [] σ2 Q) hCτ hFτ (List.getElem?_eq_getElem hqM) (List.getElem?_eq_getElem hiD) (fun w υ hw g2 hF2 => ?_)
          · exact key
          · rcases hw with rfl | rfl
            · exact vX3_assigned_121 ⟨fun _ => ⟨Or.inl rfl, H 0 υ (Or.inl rfl) (fN_trans g g2) (fun z => absurd z (by decide))⟩, fun z => absurd rfl z⟩
            · rw [nI_1]
              exact ihc (j + 1) υ (by omega) (fN_trans g g2) (hF2 rfl)
      exact loop k 0 σ (by omega) fN_rfl hF
end MA
