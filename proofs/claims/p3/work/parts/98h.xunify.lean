/-! ===== class Unifying: takes, found ===== -/
section XU
variable {σ τ : am_S}
theorem x_isUnknown {t d : Nat} {z : Tm} {Q : Int32 → am_S → Prop} (hz : Can z) (ht : Rp σ t z) (h1 : kd z = 0 ∨ vb z = 0 → Q 1 σ) (h0 : ¬ (kd z = 0 ∨ vb z = 0) → Q 0 σ) : am_K ri am_Lx IX9_isUnknown (d + 1) [.ref t] σ Q := by
  have hk := Rp_kd ht
  have hc := Can_kd hz
  have hv := vb_lt z hz
  refine vX9_isUnknown ⟨Rp_T ht, ?_⟩
  rw [hk.1, hk.2.2.2]
  refine ⟨fun e => h1 (Or.inl ((nx_z (by omega)).mp e)), fun e => ⟨Rp_T ht, fun e2 => h0 ?_, fun e2 => h1 (Or.inr ((nx_z (by omega)).mp e2))⟩⟩
  rintro (q | q)
  · exact e ((nx_z (by omega)).mpr q)
  · exact e2 ((nx_z (by omega)).mpr q)
theorem x_takes {t d k : Nat} {x : Tm} {Q : Int32 → am_S → Prop} (hk : k = 3 ∨ k = 4) (hx : Can x) (hf : fits x) (ht : Rp σ t x) (h1 : takP k x → Q 1 σ) (h0 : ¬ takP k x → Q 0 σ) : am_K ri am_Lx IX9_takes (d + 2) [.ref t, .int (nI k)] σ Q := by
  have hkd := Rp_kd ht
  have hc := Can_kd hx
  have hv := vb_lt x hx
  have hT := Rp_T ht
  obtain ⟨a, a1, a2, a3⟩ := Rp_pts ht
  have hfp := fits_pts hx hf
  have hcp := (Can_pts hx).2.2
  have e6 : gS σ t 4 >>> ((6 : Int32) &&& 31) = nI (vb x / 64) := by
    rw [hkd.2.2.2, show (6 : Int32) = nI 6 from rfl, nx_shr (by omega) (by omega)]
  refine vX9_takes ⟨hT, ?_⟩
  rw [e6]
  refine ⟨fun e => ?_, fun e => h0 fun z => e ((nx_z (by omega)).mpr (by have := z.1; omega))⟩
  have hv64 : vb x < 64 := by
    have := (nx_z (by omega)).mp e
    omega
  refine ⟨hT, ?_⟩
  refine pk_eq (kd x) k (fun e => ?_) (fun e => ?_) hkd.1 rfl (by omega) (by omega)
  · unfold takP at h1 h0
    rw [fl1_eq e] at h1 h0
    have no : ∀ i : Int32, ¬ (∀ z ∈ pts x, kd z = 0 ∨ vb z = 0) → am_X ri am_Lx IX9_takes (d + 2) 29 [some (.ref t), some (.int (nI k)), some (.int (0 : Int32)), some (.int i)] [] σ Q := fun i h => vX9_takes_29 ⟨fun _ => ⟨Or.inl rfl, h0 fun z => h z.2⟩, fun z => absurd rfl z⟩
    have loop : ∀ m i, i + m = (pts x).length → (∀ z ∈ (pts x).take i, kd z = 0 ∨ vb z = 0) → am_X ri am_Lx IX9_takes (d + 2) 29 [some (.ref t), some (.int (nI k)), some (.int (1 : Int32)), some (.int (nI i))] [] σ Q := by
      intro m
      induction m with
      | zero =>
        intro i hi ha
        refine vX9_takes_29 ⟨fun z => absurd z (by decide), fun _ => ⟨hT, o_s a1 ⟨ar_A a2, ?_⟩⟩⟩
        rw [ar_L a2]
        refine pk_le (pts x).length i (fun _ => ⟨Or.inr rfl, h1 ⟨hv64, ?_⟩⟩) (fun h => by omega)
        rw [List.take_of_length_le (by omega)] at ha
        exact ha
      | succ m ih =>
        intro i hi ha
        have hip : i < (pts x).length := by omega
        obtain ⟨u, u1, u2⟩ := a3 i _ (List.getElem?_eq_getElem hip)
        have hmem := List.getElem_mem hip
        refine vX9_takes_29 ⟨fun z => absurd z (by decide), fun _ => ⟨hT, o_s a1 ⟨ar_A a2, ?_⟩⟩⟩
        rw [ar_L a2, nI_clamp (n := i) (by omega), nI_1]
        refine pk_le (pts x).length i (fun h => by omega) (fun _ => ⟨hT, o_s a1 ⟨ar_R a2, by rw [ar_L a2]; exact pk_in i _ hip, o_s u1 ?_⟩⟩)
        refine x_isUnknown (d := d) (hcp _ hmem) u2 (fun h => ih (i + 1) (by omega) fun z hz => ?_) (fun h => no _ fun c => h (c _ hmem))
        rw [take_snoc hip] at hz
        rcases List.mem_append.mp hz with q | q
        · exact ha z q
        · rw [List.mem_singleton.mp q]; exact h
    exact loop (pts x).length 0 (by omega) (by simp)
  · unfold takP at h1 h0
    rw [fl1_ne e] at h1 h0
    refine x_isUnknown (d := d) hx ht (fun h => ⟨Or.inr rfl, h1 ⟨hv64, fun z hz => ?_⟩⟩) (fun h => ⟨Or.inl rfl, h0 fun z => h (z.2 x (List.mem_singleton_self _))⟩)
    rw [List.mem_singleton.mp hz]
    exact h
/-- the class's latest unifiers: kind and unknowns -/
def uX (k : Nat) (U : List (Tm × Int)) (τ : am_S) : Prop := gS τ 35 6 = nI k ∧ un τ U ∧ gS τ 36 0 = nI 16 ∧ gS τ 36 9 = nI U.length ∧ (uB U).length ≤ 16 ∧ fs36 U.length (uB U) τ ∧ gq (vn U) U.length (uB U).length (covB (uB U) (vn U)) (grB (uB U) (vn U) U.length) τ ∧ gS τ 35 9 = nI (usf (grB (uB U) (vn U) U.length) (uB U).length) ∧ gS τ 35 10 = nI (uG U).length
abbrev ufW (σ τ : am_S) : Prop := gw [(35, 6), (35, 7), (35, 8), (35, 9), (35, 10), (36, 8), (36, 9), (36, 10), (36, 11)] [37, 38, 39, 40, 41, 42, 44, 45, 46, 47] [] [43] 0 0 σ τ
theorem bs36_eq {R U : Nat} {A A' : Nat → Nat → Int} (h : bs36 R U A σ) (e : ∀ r j, r < R → j < U → A r j = A' r j) : bs36 R U A' σ := by
  obtain ⟨h0, h1, h2, h3, h4, h5, h6⟩ := h
  refine ⟨h0, h1, h2, h3, h4, h5, fun r hr j hj => ?_⟩
  rw [← e r j hr hj]
  exact h6 r hr j hj
theorem un_ext {U : List (Tm × Int)} {S : List (Nat × Nat)} {A J P : List Nat} {c s : Nat} (h : un σ U) (g : gw S A J P c s σ τ) (h1 : (35, 7) ∉ S) (h2 : (35, 8) ∉ S) (h3 : 43 ∉ P) (h4 : 44 ∉ A) : un τ U := by
  obtain ⟨u1, u2, u3⟩ := h
  refine ⟨by rw [gw_S g (by omega) h1]; exact u1, by rw [gw_S g (by omega) h2]; exact u2, fun i q hq => ?_⟩
  obtain ⟨⟨t, t1, t2⟩, t3⟩ := u3 i q hq
  rw [gw_P g (by omega) h3, gw_A g h4]
  exact ⟨⟨t, t1, Rp_ext (gw_ext g) t2⟩, t3⟩
theorem sols_sm {R U S : Nat} {A : Nat → Nat → Int} {x : List Nat} (h : x ∈ sols R U S A) : sm x ≤ S ∧ x.length = U ∧ 0 < sm x := by
  have := (sols_mem.mp h).1
  exact ⟨this.2.1, this.1, this.2.2.1⟩
theorem x_ufound {ta tb k d : Nat} {x y : Tm} {Q : Int32 → am_S → Prop} (hk : k = 3 ∨ k = 4) (hx : Can x) (hfx : fits x) (hy : Can y) (hfy : fits y) (tx : takP k x) (ty : takP k y) (ra : Rp σ ta x) (rb : Rp σ tb y) (h0 : gS σ 36 0 = nI 16) (h1 : gS σ 36 1 = nI 16)
    (HF : ∀ τ, ufW σ τ → 16 < (uB (uN (uP k x y))).length → gS τ 35 10 = nI 0 → Q (-4) τ)
    (HG : ∀ τ, ufW σ τ → uX k (uN (uP k x y)) τ → Q (nI (uG (uN (uP k x y))).length) τ) : am_K ri am_Lx IX9_found (d + 44) [.ref 35, .ref ta, .ref tb, .int (nI k)] σ Q := by
  have hok := uN_ok hk hx hfx hy hfy tx ty
  have fx := fl1_fits hx hfx hk
  have fy := fl1_fits hy hfy hk
  have hP1 : ∀ q ∈ (fl1 k x).map (fun z => (z, (1 : Int))), (-1 ≤ q.2 ∧ q.2 ≤ 1) ∧ Can q.1 ∧ fits q.1 := fun q hq => by
    obtain ⟨z, hz, e⟩ := List.mem_map.mp hq
    rw [← e]
    exact ⟨⟨show (-1 : Int) ≤ 1 by decide, show (1 : Int) ≤ 1 by decide⟩, (fx.2 z hz).1, (fx.2 z hz).2.1⟩
  have hP : ∀ q ∈ uP k x y, Can q.1 := fun q hq => by
    rcases uP_mem hq with ⟨h, _⟩ | ⟨h, _⟩
    · exact (fx.2 _ h).1
    · exact (fy.2 _ h).1
  refine vX9_found ?_
  have s0 : ufW σ (wS (wS (wS σ 35 6 (nI k)) 35 10 (0 : Int32)) 35 7 (0 : Int32)) := gw_wS (gw_wS (gw_wS gw_rfl (by decide) (by omega)) (by decide) (by omega)) (by decide) (by omega)
  have z10 : gS (wS (wS (wS σ 35 6 (nI k)) 35 10 (0 : Int32)) 35 7 (0 : Int32)) 35 10 = nI 0 := by rw [wS_ne (by omega), wS_at]; rfl
  have z6 : gS (wS (wS (wS σ 35 6 (nI k)) 35 10 (0 : Int32)) 35 7 (0 : Int32)) 35 6 = nI k := by rw [wS_ne (by omega), wS_ne (by omega), wS_at]
  have zu : uk (wS (wS (wS σ 35 6 (nI k)) 35 10 (0 : Int32)) 35 7 (0 : Int32)) [] := ⟨by rw [wS_at]; rfl, fun i z hz => by simp [tAll] at hz⟩
  generalize (wS (wS (wS σ 35 6 (nI k)) 35 10 (0 : Int32)) 35 7 (0 : Int32)) = σ0 at s0 z10 z6 zu
  refine x_tally (d := d) (P := []) (b := 1) (by decide) ⟨by decide, by decide⟩ (fun q hq => by simp at hq) (by have := fx.1; simp; omega) hk hx hfx (Rp_ext (gw_ext s0) ra) z6 zu fun σ1 g1 u1 => ?_
  rw [List.nil_append] at u1
  have s1 : ufW σ σ1 := gw_trans s0 (gw_mono g1 (by decide) (by decide) (by decide) (by decide) (Nat.le_refl _) (Nat.le_refl _))
  refine x_tally (d := d) (P := (fl1 k x).map (fun z => (z, (1 : Int)))) (b := -1) (by decide) ⟨by decide, by decide⟩ hP1 (by have := fx.1; have := fy.1; rw [List.length_map]; omega) hk hy hfy (Rp_ext (gw_ext s1) rb) (by rw [gw_S g1 (by omega) (by decide)]; exact z6) u1 fun σ2 g2 u2 => ?_
  have s2 : ufW σ σ2 := gw_trans s1 (gw_mono g2 (by decide) (by decide) (by decide) (by decide) (Nat.le_refl _) (Nat.le_refl _))
  have u2' : uk σ2 (uP k x y) := u2
  have z10b : gS σ2 35 10 = nI 0 := by rw [gw_S g2 (by omega) (by decide), gw_S g1 (by omega) (by decide)]; exact z10
  have z6b : gS σ2 35 6 = nI k := by rw [gw_S g2 (by omega) (by decide), gw_S g1 (by omega) (by decide)]; exact z6
  have hl16 : (tAll ((uP k x y).map (·.1))).length ≤ 16 := by
    have h2 := tAll_len ((uP k x y).map (·.1))
    rw [List.length_map] at h2
    have h3 : (uP k x y).length = (fl1 k x).length + (fl1 k y).length := by
      unfold uP
      simp
    have := fx.1
    have := fy.1
    omega
  refine x_dropEqual (d := d + 42) (W := (tAll ((uP k x y).map (·.1))).map (fun z => (z, net z (uP k x y)))) (by rw [List.length_map]; exact hl16) (fun q hq => ?_) (by rw [List.length_map]; exact u2'.1) (fun i q hq => ?_) fun σ3 g3 u3 => ?_
  · obtain ⟨z, hz, e⟩ := List.mem_map.mp hq
    obtain ⟨p, hp, e2⟩ := List.mem_map.mp (tAll_mem.mp hz)
    rw [← e, ← e2]
    exact hP p hp
  · rw [List.getElem?_map] at hq
    obtain ⟨z, hz, e⟩ := Option.map_eq_some_iff.mp hq
    rw [← e]
    exact u2'.2 i z hz
  have u3' : un σ3 (uN (uP k x y)) := u3
  have s3 : ufW σ σ3 := gw_trans s2 (gw_mono g3 (by decide) (by decide) (by decide) (by decide) (Nat.le_refl _) (Nat.le_refl _))
  have z10c : gS σ3 35 10 = nI 0 := by rw [gw_S g3 (by omega) (by decide)]; exact z10b
  have z6c : gS σ3 35 6 = nI k := by rw [gw_S g3 (by omega) (by decide)]; exact z6b
  generalize hU : uN (uP k x y) = U at *
  have hn := hok.1
  have hv := hok.2.1
  have hvn := vn_le U
  have hS := uS_bd hok
  rw [u3'.1]
  refine x_begin36 (d := d + 42) hn (by rw [gw_S s3 (by omega) (by decide)]; exact h0) (by rw [gw_S s3 (by omega) (by decide)]; exact h1) fun σ4 g4 b4 => ?_
  have loop : ∀ m j τ (l4 l5 : Int32), j + m = U.length → gw [(36, 8), (36, 9), (36, 11)] [37] [] [] 0 0 σ3 τ → bs36 1 U.length (fun _ i => if i < j then uw U i else 0) τ → l4.toInt = mxI (uw U) j → l5.toInt = mnI (uw U) j → am_X ri am_Lx IX9_found (d + 44) 52 [some (.ref 35), some (.ref ta), some (.ref tb), some (.int (nI k)), some (.int l4), some (.int l5), some (.int (nI j))] [] τ Q := by
    intro m
    induction m with
    | zero =>
      intro j τ l4 l5 hj g5 b5 e4 e5
      obtain rfl : j = U.length := by omega
      have ut := un_ext u3' g5 (by decide) (by decide) (by decide) (by decide)
      have st : ufW σ τ := gw_trans s3 (gw_mono g5 (by decide) (by decide) (by decide) (by decide) (Nat.le_refl _) (Nat.le_refl _))
      have b6 : bs36 1 U.length (fun _ => uw U) τ := bs36_eq b5 fun r j _ hj => if_pos hj
      refine vX9_found_52 (pk_le U.length U.length (fun _ => ?_) (fun h => by omega) ut.1 rfl (by omega) (by omega))
      have hmx := mxI_bd (f := uw U) (B := 8) (by decide) (j := U.length) fun i hi => (uw_ok hok hi).2.2
      have hmn := mnI_bd (f := uw U) (B := -8) (by decide) (j := U.length) fun i hi => (uw_ok hok hi).2.1
      have e6 : l4 - l5 = nI (uS U) := nI_ofT (by rw [t_sub e4 e5 (by omega), hS.2])
      rw [e6, show d + 43 = (d + 40 - U.length) + U.length + 3 by omega]
      refine x_found36 (d := d + 40 - U.length) b6 hS.1 (fun τ2 f1 hle f2 => ?_) (fun τ2 f1 hgt f2 => ?_)
      · have g7 := gw_fr f1 (by decide) (by decide)
        have s7 : ufW σ τ2 := gw_trans st (gw_mono g7 (by decide) (by decide) (by decide) (by decide) (Nat.le_refl _) (Nat.le_refl _))
        refine ⟨fun _ => ?_, fun z => ?_⟩
        · have u7 := un_ext ut g7 (by decide) (by decide) (by decide) (by decide)
          have b7 := bs36_fr b6 f1
          rw [show d + 40 - U.length + U.length + 3 = d + 43 by omega]
          refine x_sortBases (d := d + 41) (B := uB U) b7.1 u7.1 u7.2.1 hv hvn hn f2 hle (fun x hx => by have := (sols_sm hx).1; omega) fun τ3 g8 q8 us8 => ?_
          have s8 : ufW σ τ3 := gw_trans s7 (gw_mono g8 (by decide) (by decide) (by decide) (by decide) (Nat.le_refl _) (Nat.le_refl _))
          rw [q8.1]
          refine x_goodSets (d := d + 41) (fm := (uB U).length) (ch := 0) (bare := allB (vn U)) (lack := allL (vn U) U.length) q8 (Nat.le_refl _) (by decide) ⟨fun b a1 a2 => by omega, fun b c a1 a2 a3 => by omega⟩ (fun j => ?_) (fun j => ?_) fun τ4 g9 => ?_
          · rw [allB_tb]
            exact ⟨fun a => ⟨a, fun b a1 a2 => by omega⟩, fun a => a.1⟩
          · rw [allL_tb hn]
            exact ⟨fun a => ⟨a, fun b a1 a2 => by omega⟩, fun a => a.1⟩
          · have s9 : ufW σ τ4 := gw_trans s8 (gw_mono g9 (by decide) (by decide) (by decide) (by decide) (Nat.le_refl _) (Nat.le_refl _))
            have q9 := gq_47 q8 g9
            have u9 := un_ext (un_ext u7 g8 (by decide) (by decide) (by decide) (by decide)) g9 (by decide) (by decide) (by decide) (by decide)
            have f9 := fs36_gw (fs36_gw f2 g8 (by decide) (by decide)) g9 (by decide) (by decide)
            have w9 : ∀ v, gw [(35, 10)] [] [] [] 0 0 τ4 (wS τ4 35 10 v) := fun v => gw_wS gw_rfl (by decide) (by omega)
            refine HG _ (gw_wS s9 (by decide) (by omega)) ⟨?_, un_ext u9 (w9 _) (by decide) (by decide) (by decide) (by decide), ?_, ?_, hle, fs36_gw f9 (w9 _) (by decide) (by decide), ⟨?_, q9.2.1, ?_, ?_, q9.2.2.2.2⟩, ?_, wS_at _ _ _ _⟩
            · rw [wS_ne (by omega), gw_S g9 (by omega) (by decide), gw_S g8 (by omega) (by decide), gw_S g7 (by omega) (by decide), gw_S g5 (by omega) (by decide)]
              exact z6c
            · rw [wS_ne (by omega), gw_S g9 (by omega) (by decide), gw_S g8 (by omega) (by decide)]
              exact b7.1
            · rw [wS_ne (by omega), gw_S g9 (by omega) (by decide), gw_S g8 (by omega) (by decide)]
              exact b7.2.2.2.1
            · rw [wS_ne (by omega)]; exact q9.1
            · rw [wS_ne (by omega)]; exact q9.2.2.1
            · rw [wS_ne (by omega)]; exact q9.2.2.2.1
            · rw [wS_ne (by omega), gw_S g9 (by omega) (by decide)]
              exact us8
        · have hle2 : (sols 1 U.length (uS U) fun _ => uw U).length ≤ 16 := hle
          rw [i_eq, nI_toInt (by omega), show (-4 : Int32).toInt = -4 by decide] at z
          omega
      · have g7 := gw_fr f1 (by decide) (by decide)
        refine ⟨fun z => absurd rfl z, fun _ => HF τ2 (gw_trans st (gw_mono g7 (by decide) (by decide) (by decide) (by decide) (Nat.le_refl _) (Nat.le_refl _))) hgt ?_⟩
        rw [gw_S g7 (by omega) (by decide), gw_S g5 (by omega) (by decide)]
        exact z10c
    | succ m ih =>
      intro j τ l4 l5 hj g5 b5 e4 e5
      have hjl : j < U.length := by omega
      have ut := un_ext u3' g5 (by decide) (by decide) (by decide) (by decide)
      have e44 := (ut.2.2 j _ (List.getElem?_eq_getElem hjl)).2
      have ewj := uw_get (List.getElem?_eq_getElem hjl)
      have hw := uw_ok hok hjl
      rw [← ewj] at e44
      refine vX9_found_52 (pk_le U.length j (fun h => by omega) (fun _ => ⟨pk_in j 16 (by omega), ?_⟩) ut.1 rfl (by omega) (by omega))
      rw [nI_clamp (n := j) (by omega), nI_1]
      refine x_changed36 (d := d + 42) b5 hjl e44 (by omega) fun r τ2 g6 b6 => ⟨pk_in j 16 (by omega), pk_in j 16 (by omega), ?_⟩
      rw [gw_A g6 (by decide)]
      refine ih (j + 1) τ2 _ _ (by omega) (gw_trans g5 (gw_mono g6 (by decide) (by decide) (by decide) (by decide) (Nat.le_refl _) (Nat.le_refl _))) (bs36_eq b6 fun r i _ hi => ?_) ?_ ?_
      · show (if i = j then uw U j else if i < j then uw U i else 0) = if i < j + 1 then uw U i else 0
        by_cases a : i = j
        · subst a
          rw [if_pos rfl, if_pos (by omega)]
        · rw [if_neg a]
          by_cases b : i < j
          · rw [if_pos b, if_pos (by omega)]
          · rw [if_neg b, if_neg (by omega)]
      · simp only [mxI]
        by_cases c : l4 < gA τ 44 j
        · have c2 := c
          rw [i_lt, e4, e44] at c2
          rw [if_pos c, if_pos c2, e44]
        · have c2 := c
          rw [i_lt, e4, e44] at c2
          rw [if_neg c, if_neg c2, e4]
      · simp only [mnI]
        by_cases c : gA τ 44 j < l5
        · have c2 := c
          rw [i_lt, e5, e44] at c2
          rw [if_pos c, if_pos c2, e44]
        · have c2 := c
          rw [i_lt, e5, e44] at c2
          rw [if_neg c, if_neg c2, e5]
  exact loop U.length 0 σ4 0 0 (by omega) g4 (bs36_eq b4 fun r i _ _ => by rw [if_neg (Nat.not_lt_zero _)]) rfl rfl
end XU
