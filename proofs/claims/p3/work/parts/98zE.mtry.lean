/-! ===== the search goes well ===== -/
section MT
variable {D M : List Tm} {f : Nat}
/-- the search from a frame on -/
def sOk (D M : List Tm) (f d : Nat) : Prop := ∀ (σ : am_S) (Q : Unit → am_S → Prop), Cx D M σ → Fr D M f σ → Mt D σ → (∀ τ, fM f σ τ → Mt D τ → Q () τ) → am_K ru am_Lx IX3_search d [.ref 11, .int (nI f)] σ Q
theorem Rg_fM {σ τ : am_S} {p : Nat} {x : Tm} (h : Rg D σ f p x) (hp : p < 40) (g : fM (f + 1) σ τ) : Rg D τ f p x := by
  obtain ⟨h1, l, h2, h3, h4⟩ := h
  exact ⟨h1, l, h2, h3, by rw [(g.2.1 (40 * f + p) (by omega)).2]; exact h4⟩
theorem x_tryRows {σ : am_S} {d q : Nat} {Q : Unit → am_S → Prop} (hS : sOk D M (f + 1) (d + 3)) (hC : Cx D M σ) (hF : Fr D M f σ) (hf : f + 1 ≤ 40) (hm : Mt D σ) (hq : kOk D M σ f q) (H : ∀ τ, fM f σ τ → Mt D τ → Q () τ) : am_K ru am_Lx IX3_tryRows (d + 4) [.ref 11, .int (nI f), .int (nI q)] σ Q := by
  have hM := hC.2.2
  have hD40 := hC.1.2.1
  obtain ⟨hqM, p, x, hx, h20, r34, l, r2, r3, r4⟩ := hq
  have hpM := (List.getElem?_eq_some_iff.mp hx).1
  have hz := List.getElem?_eq_getElem hqM
  obtain ⟨hcz, hfz, -, u, m', fs', k', id', l', e1, e2, e3, e4, e5, -⟩ := Cx_node hC hz
  obtain ⟨hcx, -⟩ := Cx_node hC hx
  have hx4 := kd4 hcx
  have hvq : vp_in (nI q) 40 := vp_in_nI (by omega) (by omega)
  refine vX3_tryRows ⟨hvq, ?_⟩
  rw [nI_clamp (n := q) (by omega), h20, ix40, nI_clamp (n := 40 * f + p) (by omega), e3, r4]
  refine ⟨vp_in_nI (by omega) (by omega), hvq, r_divided (d := d) hx4 (idl_rG r2 hD40) e4 (by omega) fun mm hmm hmt hma => r_size (d := d + 2) hx4 hmm ⟨hvq, o_s e1 ⟨Rp_T e2, x_rank (d := d + 1) fun r hr => ?_⟩⟩⟩
  have hidm : idl D mm := ⟨hmm.1, fun a ha => r2.2 a (dvP_mem (hma a ha))⟩
  have h8 := hmm.1
  have hp2 := pk_le8 h8
  rw [nx_1shl (by omega)]
  have loop : ∀ (c b : Nat) (τ : am_S), b + c = 2 ^ mm.length → fM (f + 1) σ τ → Mt D τ → am_X ru am_Lx IX3_tryRows (d + 3 + 1) 64 [some (.ref 11), some (.int (nI f)), some (.int (nI q)), some (.long (lN (rE (kd x) mm))), none, some (.int (nI (2 ^ mm.length))), some (.int (nI r)), some (.int (nI b)), none, none] [] τ Q := by
    intro c
    induction c with
    | zero =>
      intro b τ hb g hmτ
      exact vX3_tryRows_64 ⟨fun _ => H τ (fM_le (by omega) g) hmτ, fun z => absurd (nI_le (by omega) (by omega)) z⟩
    | succ c ih =>
      intro b τ hb g hmτ
      have hCτ := Cx_fM hC g
      have hFτ := Fr_fM hF hM g
      refine vX3_tryRows_64 ⟨fun z => absurd z (nI_ge (by omega) (by omega)), fun _ => ⟨fun _ => H τ (fM_le (by omega) g) hmτ, fun _ => ?_⟩⟩
      rw [nI_1 b]
      refine r_picked (d := d) hx4 hmm (fun m2 hm2 hm2a => ⟨fun z => absurd z (cmp_miss hx4 hm2), fun _ => ?_⟩) ⟨fun _ => ih (b + 1) τ (by omega) g hmτ, fun z => absurd (by decide : lg_cmp (-1 : Int64) (-1) = 0) z⟩
      refine x_copy (d := d + 2) hCτ hFτ hf fun τ1 g1 hF1 _ => ?_
      have hC1 := Cx_fN hCτ g1
      refine x_valueOf (d := d + 1) hC1.1 hx4 (⟨hm2.1, fun a ha => hidm.2 a (hm2a a ha)⟩ : idl D m2) (fun _ => r34) fun v hv => ?_
      rw [nI_1 f, ix4, nI_clamp (n := 4 * (f + 1) + r) (by omega)]
      refine ⟨vp_in_nI (by omega) (by omega), ?_⟩
      have g2 : fN (f + 1) τ1 (wJ τ1 26 (4 * (f + 1) + r) v) := fN_26 fN_rfl (by omega)
      have hF2 : Fr D M (f + 1) (wJ τ1 26 (4 * (f + 1) + r) v) := by
        refine ⟨fun p' x' hx' => ?_, fun k hk => ?_⟩
        · obtain ⟨b', k2, c1, c2, c3, c4, c5⟩ := hF1.1 p' x' hx'
          refine ⟨b', k2, c1, c2, c3, c4, fun hb' => ?_⟩
          obtain ⟨s1, l2, s2, s3, s4⟩ := c5 hb'
          exact ⟨s1, l2, s2, s3, by rw [wJ_ne (by omega)]; exact s4⟩
        · by_cases e : k = r
          · rw [e, wJ_at]
            exact hv
          · rw [wJ_ne (by omega)]
            exact hF1.2 k hk
      have g3 := fN_trans g1 g2
      exact hS _ _ (Cx_fN hCτ g3) hF2 (Mt_fN hmτ g3) fun τ2 g4 hm4 => ih (b + 1) τ2 (by omega) (fM_trans g (fM_trans (fN_M g3) g4)) hm4
  exact loop (2 ^ mm.length - 1) 1 σ (by have := Nat.two_pow_pos mm.length; omega) fM_rfl hm
theorem mns1 {l : List Nat} {a : Nat} (h : 1 ≤ l.count a) : mns l [a] = some (l.erase a) := by
  have hm : a ∈ l := List.count_pos_iff.mp (by omega)
  show (if a ∈ l then mns (l.erase a) [] else none) = _
  rw [if_pos hm]
  rfl
theorem x_tryParts {σ : am_S} {d q : Nat} {Q : Unit → am_S → Prop} (hS : sOk D M (f + 1) (d + 44)) (hC : Cx D M σ) (hF : Fr D M f σ) (hf : f + 1 ≤ 40) (hm : Mt D σ) (hq : kOk D M σ f q) (H : ∀ τ, fM f σ τ → Mt D τ → Q () τ) : am_K ru am_Lx IX3_tryParts (d + 45) [.ref 11, .int (nI f), .int (nI q)] σ Q := by
  have hM := hC.2.2
  have hD40 := hC.1.2.1
  obtain ⟨hqM, p, x, hx, h20, r34, l, r2, r3, r4⟩ := hq
  have hpM := (List.getElem?_eq_some_iff.mp hx).1
  have hz := List.getElem?_eq_getElem hqM
  obtain ⟨hcz, hfz, -, u, m', fs', k', id', l', e1, e2, e3, e4, e5, -⟩ := Cx_node hC hz
  obtain ⟨hcx, -, -, t, m0, fs, k, id, lg, a1, a2, a3, a4, a5, a6, a7, a8, a9, a10, -⟩ := Cx_node hC hx
  have hx4 := kd4 hcx
  have hvq : vp_in (nI q) 40 := vp_in_nI (by omega) (by omega)
  have hvn : vp_in (nI (40 * (f + 1) + p)) 1640 := vp_in_nI (by omega) (by omega)
  have hcln : (nI (40 * (f + 1) + p)).toNatClampNeg = 40 * (f + 1) + p := nI_clamp (by omega)
  refine vX3_tryParts ⟨hvq, ?_⟩
  rw [nI_clamp (n := q) (by omega), h20, nI_1 f, ix40, ix40, nI_clamp (n := 40 * f + p) (by omega), e3, r4]
  refine ⟨vp_in_nI (by omega) (by omega), hvq, r_divided (d := d + 41) hx4 (idl_rG r2 hD40) e4 (by omega) fun mm hmm hmt hma => r_size (d := d + 43) hx4 hmm ?_⟩
  have hidm : idl D mm := ⟨hmm.1, fun a ha => r2.2 a (dvP_mem (hma a ha))⟩
  have h8 := hmm.1
  have loop : ∀ (c i : Nat) (τ : am_S), i + c = mm.length → fM (f + 1) σ τ → Mt D τ → am_X ru am_Lx IX3_tryParts (d + 44 + 1) 59 [some (.ref 11), some (.int (nI f)), some (.int (nI q)), some (.int (nI p)), some (.int (nI (40 * (f + 1) + p))), some (.long (lN (rE (kd x) l))), none, some (.long (lN (rE (kd x) mm))), none, some (.int (nI mm.length)), some (.int (nI i)), none, none] [] τ Q := by
    intro c
    induction c with
    | zero =>
      intro i τ hi g hmτ
      exact vX3_tryParts_59 ⟨fun _ => H τ (fM_le (by omega) g) hmτ, fun z => absurd (nI_le (by omega) (by omega)) z⟩
    | succ c ih =>
      intro i τ hi g hmτ
      have hil : i < mm.length := by omega
      have hCτ := Cx_fM hC g
      have hFτ := Fr_fM hF hM g
      obtain ⟨a, ha, haD⟩ := idD hidm hil
      have nx : ∀ υ, fM (f + 1) σ υ → Mt D υ → am_X ru am_Lx IX3_tryParts (d + 44 + 1) 59 [some (.ref 11), some (.int (nI f)), some (.int (nI q)), some (.int (nI p)), some (.int (nI (40 * (f + 1) + p))), some (.long (lN (rE (kd x) l))), none, some (.long (lN (rE (kd x) mm))), none, some (.int (nI mm.length)), some (.int (nI i + (1 : Int32))), none, none] [] υ Q := fun υ g2 h2 => by
        rw [nI_1]
        exact ih (i + 1) υ (by omega) g2 h2
      have hcnt : m' ≤ l.count (a + 1) := by
        rw [← ha]
        exact dvP_count r3 (hma _ (List.getElem_mem hil))
      -- a PART is tried
      have go : am_K ri am_Lx IX3_alike (d + 44) [.ref 11, .int (nI q), .int (nI (a + 1))] τ (fun r2' σ2 => (r2' = 0 → am_X ru am_Lx IX3_tryParts (d + 44 + 1) 59 [some (.ref 11), some (.int (nI f)), some (.int (nI q)), some (.int (nI p)), some (.int (nI (40 * (f + 1) + p))), some (.long (lN (rE (kd x) l))), none, some (.long (lN (rE (kd x) mm))), none, some (.int (nI mm.length)), some (.int (nI i + (1 : Int32))), none, none] [] σ2 Q) ∧ (¬ r2' = 0 → am_K ru am_Lx IX3_copy (d + 44) [.ref 11, .int (nI f)] σ2 (fun _ σ3 => (vp_in (nI (40 * (f + 1) + p)) 1640) ∧ (vp_in (nI p) 40) ∧ (vp_in (nI (40 * (f + 1) + p)) 1640) ∧ am_X ru am_Lx IX3_tryParts (d + 44 + 1) 146 [some (.ref 11), some (.int (nI f)), some (.int (nI q)), some (.int (nI p)), some (.int (nI (40 * (f + 1) + p))), some (.long (lN (rE (kd x) l))), none, some (.long (lN (rE (kd x) mm))), none, some (.int (nI mm.length)), some (.int (nI i)), some (.int (nI (a + 1))), some (.int (0 : Int32))] [] (wA σ3 24 (nI (40 * (f + 1) + p)).toNatClampNeg ((gA σ3 24 (nI (40 * (f + 1) + p)).toNatClampNeg) &&& (((1 : Int32) <<< ((nI q - (gA σ3 21 (nI p).toNatClampNeg)) &&& 31)) ^^^ (-1 : Int32)))) Q))) := by
        refine x_alike (d := d + 43) hCτ hz (List.getElem?_eq_getElem haD) ⟨fun _ => nx τ g hmτ, fun z => absurd rfl z⟩ fun _ _ => ⟨fun z => absurd z (by decide), fun _ => ?_⟩
        refine x_copy (d := d + 43) hCτ hFτ hf fun τ1 g1 hF1 hcp => ⟨hvn, vp_in_nI (by omega) (by omega), hvn, ?_⟩
        rw [hcln]
        obtain ⟨b, kk, c1, c2, c3, c4, c5⟩ := hF1.1 p x hx
        have hkk := pk_le8 c2
        rw [c3]
        obtain ⟨b', hb', eb⟩ := nx_andX (b := b) (by omega) (((1 : Int32) <<< ((nI q - (gA τ1 21 (nI p).toNatClampNeg)) &&& 31)) ^^^ (-1 : Int32))
        rw [eb]
        have hrow1 : gJ τ1 25 (40 * (f + 1) + p) = lN (rE (kd x) l) := by
          rw [(hcp p hpM).2, (g.2.1 (40 * f + p) (by omega)).2]
          exact r4
        have hR1 : Rg D τ1 (f + 1) p x := ⟨r34, l, r2, r3, hrow1⟩
        have g2 : fN (f + 1) τ (wA τ1 24 (40 * (f + 1) + p) (nI b')) := fN_24 g1 (by omega)
        have hF2 : Fr D M (f + 1) (wA τ1 24 (40 * (f + 1) + p) (nI b')) := Fr_24 hx hF1 c1 c2 (by omega) (fun _ => hR1)
        -- it goes from the row, as often as the kid stands there
        have drop : ∀ (e n : Nat) (cur : List Nat) (υ : am_S), n + e = m' → fN (f + 1) τ υ → Fr D M (f + 1) υ → cur.Sublist l → e ≤ cur.count (a + 1) → gJ υ 25 (40 * (f + 1) + p) = lN (rE (kd x) cur) → am_X ru am_Lx IX3_tryParts (d + 44 + 1) 146 [some (.ref 11), some (.int (nI f)), some (.int (nI q)), some (.int (nI p)), some (.int (nI (40 * (f + 1) + p))), some (.long (lN (rE (kd x) l))), none, some (.long (lN (rE (kd x) mm))), none, some (.int (nI mm.length)), some (.int (nI i)), some (.int (nI (a + 1))), some (.int (nI n))] [] υ Q := by
          intro e
          induction e with
          | zero =>
            intro n cur υ hn g3 hF3 hsub hc hrow
            have h19 : gA υ 19 q = nI m' := by rw [g3.1.2.1 19 (by decide), g.1.2.1 19 (by decide)]; exact e3
            refine vX3_tryParts_146 ⟨hvq, ?_⟩
            rw [nI_clamp (n := q) (by omega), h19, nI_1 f]
            refine ⟨fun _ => ?_, fun z => absurd (nI_le (by omega) (by omega)) z⟩
            exact x_assigned (f := f + 1) hf 40 0 (by omega) q a d M[q] D[a] υ _ (Cx_fN hCτ g3) hF3 hz (List.getElem?_eq_getElem haD) fun w τ3 hw g4 hF4 => ⟨fun _ => nx τ3 (fM_trans g (fN_M (fN_trans g3 g4))) (Mt_fN hmτ (fN_trans g3 g4)), fun w0 => hS τ3 _ (Cx_fN hCτ (fN_trans g3 g4)) (hF4 (hw.resolve_left w0)) (Mt_fN hmτ (fN_trans g3 g4)) fun τ4 g5 hm5 => nx τ4 (fM_trans g (fM_trans (fN_M (fN_trans g3 g4)) g5)) hm5⟩
          | succ e ihe =>
            intro n cur υ hn g3 hF3 hsub hc hrow
            have h19 : gA υ 19 q = nI m' := by rw [g3.1.2.1 19 (by decide), g.1.2.1 19 (by decide)]; exact e3
            have hidc := idl_sub r2 hsub
            refine vX3_tryParts_146 ⟨hvq, ?_⟩
            rw [nI_clamp (n := q) (by omega), h19, hcln, hrow, nI_1 n]
            refine ⟨fun z => absurd z (nI_ge (by omega) (by omega)), fun _ => ⟨hvn, r_empty (k := 0) (d := d + 43) (by decide) (r_with (k := 0) (l := []) (d := d + 42) (by decide) rG_nil (by decide) (by omega) (r_minus (k' := 0) (m := [] ++ [a + 1]) (d := d + 42) hx4 (by decide) (idl_rG hidc hD40) (rG_snoc rG_nil (by decide) (by omega)) ⟨hvn, ?_⟩))⟩⟩
            rw [show ([] ++ [a + 1] : List Nat) = [a + 1] from rfl, mns1 (by omega)]
            have hs2 : (cur.erase (a + 1)).Sublist l := List.erase_sublist.trans hsub
            have hR3 : Rg D (wJ υ 25 (40 * (f + 1) + p) (rO (kd x) (some (cur.erase (a + 1))))) (f + 1) p x := ⟨r34, _, idl_sub r2 hs2, r3.sublist hs2, by rw [wJ_at]; rfl⟩
            exact ihe (n + 1) (cur.erase (a + 1)) _ (by omega) (fN_25 g3 (by omega)) (Fr_25 hM hx hF3 hR3) hs2 (by rw [List.count_erase_self]; omega) (by rw [wJ_at]; rfl)
        exact drop m' 0 l _ (by omega) g2 hF2 (List.Sublist.refl _) hcnt (by show gJ τ1 25 _ = _; exact hrow1)
      refine vX3_tryParts_59 ⟨fun z => absurd z (nI_ge (by omega) (by omega)), fun _ => ⟨fun _ => H τ (fM_le (by omega) g) hmτ, fun _ => r_at (d := d + 43) hx4 hmm hil ?_⟩⟩
      rw [ha]
      refine ⟨fun _ => go, fun hi0 => ?_⟩
      obtain ⟨s, rfl⟩ : ∃ s, i = s + 1 := ⟨i - 1, by
        have : 0 < i := Nat.pos_of_ne_zero fun w => hi0 (by rw [w]; rfl)
        omega⟩
      rw [nI_pred]
      have hsl : s < mm.length := by omega
      exact r_at (d := d + 43) hx4 hmm hsl ⟨fun _ => nx τ g hmτ, fun _ => go⟩
  exact loop mm.length 0 σ (by omega) fM_rfl hm
theorem x_search : ∀ (n f : Nat), f + n = 40 → ∀ d, sOk D M f (d + 2 * n + 47) := by
  intro n
  induction n with
  | zero =>
    intro f hf d σ Q hC hF hm H
    refine vX3_search ⟨fun _ => H σ fM_rfl hm, fun _ => ⟨fun _ => H σ fM_rfl hm, fun z => ?_⟩⟩
    rw [nI_1] at z
    exact absurd (nI_le (a := 41) (b := f + 1) (by omega) (by omega)) z
  | succ n ih =>
    intro f hf d σ Q hC hF hm H
    have hM := hC.2.2
    rw [show d + 2 * (n + 1) + 47 = d + 2 * n + 48 + 1 by omega]
    refine vX3_search ⟨fun _ => H σ fM_rfl hm, fun _ => ⟨fun _ => H σ fM_rfl hm, fun _ => ?_⟩⟩
    refine x_settled (d := d + 2 * n + 2) hC hF (by omega) fun w τ hw g hF1 => ⟨fun w0 => ?_, fun _ => H τ (fN_M g) (Mt_fN hm g)⟩
    have hC1 := Cx_fN hC g
    have hF2 := hF1 (hw.resolve_left w0)
    have hm1 := Mt_fN hm g
    refine x_choice (d := d + 2 * n + 43) hC1 hF2 (by omega) ⟨fun z => absurd z (by decide), fun _ => ?_⟩ fun q hq => ⟨fun _ => ?_, fun z => absurd (nI_pos' (by have := hq.1; omega)) z⟩
    · have e4 : nI f * (4 : Int32) = nI (4 * f) := by
        show nI f * nI 4 = _
        rw [pk_mul, Nat.mul_comm]
      rw [e4]
      exact x_enlist (d := d + 2 * n + 45) hF2 (by omega) hm1 fun τ1 g1 hm2 => H τ1 (fM_trans (fN_M g) g1) hm2
    · have hqM := hq.1
      obtain ⟨hcz, hfz, -, u, m', fs', k', id', l', e1, e2, -⟩ := Cx_node hC1 (List.getElem?_eq_getElem hqM)
      rw [nI_clamp (n := q) (by omega)]
      refine ⟨vp_in_nI (by omega) (by omega), o_s e1 ⟨Rp_T e2, fun _ => ?_, fun _ => ?_⟩⟩
      · have hs := ih (f + 1) (by omega) d
        exact x_tryParts (d := d + 2 * n + 3) (fun σ Q => hs σ Q) hC1 hF2 (by omega) hm1 hq fun τ1 g1 hm2 => H τ1 (fM_trans (fN_M g) g1) hm2
      · have hs := ih (f + 1) (by omega) d
        exact x_tryRows (d := d + 2 * n + 44) (fun σ Q => hs σ Q) hC1 hF2 (by omega) hm1 hq fun τ1 g1 hm2 => H τ1 (fM_trans (fN_M g) g1) hm2
end MT
