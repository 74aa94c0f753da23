/-! ===== the search for MATCHERS, as far as it must go well: what is fixed, what a frame holds ===== -/
def gv (D : List Tm) (v : Int64) : Prop := ∃ k l, k ≤ 4 ∧ idl D l ∧ v = lN (rE k l) ∧ (2 ≤ l.length → k = 3 ∨ k = 4)
theorem idl_nil (D : List Tm) : idl D [] := ⟨by decide, fun _ z => by cases z⟩
theorem gv_0 (D : List Tm) : gv D 0 := ⟨0, [], by decide, idl_nil D, by decide +kernel, fun z => absurd z (by decide)⟩
theorem idl_sub {D : List Tm} {l m : List Nat} (h : idl D l) (hs : m.Sublist l) : idl D m := ⟨Nat.le_trans hs.length_le h.1, fun a ha => h.2 a (hs.subset ha)⟩
def Cx (D M : List Tm) (σ : am_S) : Prop := Ins D σ ∧ Pn M M.length 400 σ ∧ M.length ≤ 40
/-- nothing but the frames from f on, and the MATCHERS -/
def fM (f : Nat) (σ τ : am_S) : Prop := fr [(11, 6)] [24] [25, 26, 27] [] σ τ ∧ (∀ i, i < 40 * f → gA τ 24 i = gA σ 24 i ∧ gJ τ 25 i = gJ σ 25 i) ∧ ∀ i, i < 4 * f → gJ τ 26 i = gJ σ 26 i
/-- nothing but the frames from f on -/
def fN (f : Nat) (σ τ : am_S) : Prop := fr [] [24] [25, 26] [] σ τ ∧ (∀ i, i < 40 * f → gA τ 24 i = gA σ 24 i ∧ gJ τ 25 i = gJ σ 25 i) ∧ ∀ i, i < 4 * f → gJ τ 26 i = gJ σ 26 i
section MB
variable {D M : List Tm} {f d : Nat} {σ τ υ : am_S}
theorem fM_rfl : fM f σ σ := ⟨fr_rfl, fun _ _ => ⟨rfl, rfl⟩, fun _ _ => rfl⟩
theorem fN_rfl : fN f σ σ := ⟨fr_rfl, fun _ _ => ⟨rfl, rfl⟩, fun _ _ => rfl⟩
theorem fM_trans (h : fM f σ τ) (g : fM f τ υ) : fM f σ υ := ⟨fr_trans h.1 g.1, fun i hi => ⟨(g.2.1 i hi).1.trans (h.2.1 i hi).1, (g.2.1 i hi).2.trans (h.2.1 i hi).2⟩, fun i hi => (g.2.2 i hi).trans (h.2.2 i hi)⟩
theorem fN_trans (h : fN f σ τ) (g : fN f τ υ) : fN f σ υ := ⟨fr_trans h.1 g.1, fun i hi => ⟨(g.2.1 i hi).1.trans (h.2.1 i hi).1, (g.2.1 i hi).2.trans (h.2.1 i hi).2⟩, fun i hi => (g.2.2 i hi).trans (h.2.2 i hi)⟩
theorem fN_M (h : fN f σ τ) : fM f σ τ := ⟨fr_mono h.1 (fun _ z => by cases z) (fun _ z => z) (fun x z => by simp at z ⊢; omega) (fun _ z => z), h.2⟩
theorem fM_le {e : Nat} (he : e ≤ f) (h : fM f σ τ) : fM e σ τ := ⟨h.1, fun i hi => h.2.1 i (by omega), fun i hi => h.2.2 i (by omega)⟩
theorem fN_le {e : Nat} (he : e ≤ f) (h : fN f σ τ) : fN e σ τ := ⟨h.1, fun i hi => h.2.1 i (by omega), fun i hi => h.2.2 i (by omega)⟩
theorem fN_24 {i : Nat} {v : Int32} (h : fN f σ τ) (hi : 40 * f ≤ i) : fN f σ (wA τ 24 i v) := ⟨fr_wA h.1 (by simp), fun j hj => ⟨by rw [wA_ne (by omega)]; exact (h.2.1 j hj).1, (h.2.1 j hj).2⟩, h.2.2⟩
theorem fN_25 {i : Nat} {v : Int64} (h : fN f σ τ) (hi : 40 * f ≤ i) : fN f σ (wJ τ 25 i v) := ⟨fr_wJ h.1 (by simp), fun j hj => ⟨(h.2.1 j hj).1, by rw [wJ_ne (by omega)]; exact (h.2.1 j hj).2⟩, fun j hj => by rw [wJ_ne (by omega)]; exact h.2.2 j hj⟩
theorem fN_26 {i : Nat} {v : Int64} (h : fN f σ τ) (hi : 4 * f ≤ i) : fN f σ (wJ τ 26 i v) := ⟨fr_wJ h.1 (by simp), fun j hj => ⟨(h.2.1 j hj).1, by rw [wJ_ne (by omega)]; exact (h.2.1 j hj).2⟩, fun j hj => by rw [wJ_ne (by omega)]; exact h.2.2 j hj⟩
theorem q11 : ∀ x ∈ [((11 : Nat), (6 : Nat))], x.1 < 48 := by decide
theorem qn : ∀ x ∈ ([] : List Nat), x < 48 := by decide
theorem Rp_fM (h : fM f σ τ) {t : Nat} {x : Tm} (hr : Rp σ t x) : Rp τ t x := fr_R h.1 q11 qn hr
theorem Cx_fM (h : Cx D M σ) (g : fM f σ τ) : Cx D M τ := by
  obtain ⟨h1, ⟨a1, a2, a3⟩, h3⟩ := h
  have gA' : ∀ n, n ≠ 24 → gA τ n = gA σ n := fun n hn => g.1.2.1 n (by simpa using hn)
  have gP' : gP τ = gP σ := funext fun n => g.1.2.2.2.1 n (by simp)
  have gJ' : gJ τ 23 = gJ σ 23 := g.1.2.2.1 23 (by decide)
  refine ⟨Ins_fr h1 g.1 (by decide) q11 (by decide) qn (by decide) (by decide), ⟨(g.1.1 16 7 (by decide)).trans a1, fun q x hx => ?_, fun q x hq hx => ?_⟩, h3⟩
  · obtain ⟨b1, b2, t, m, o, c1, c2, c3, c4, c5, c6, c7⟩ := a2 q x hx
    exact ⟨b1, b2, t, m, o, by rw [gP']; exact c1, Rp_fM g c2, by rw [gA' 19 (by decide)]; exact c3, c4, c5, by rw [gA' 20 (by decide)]; exact c6, c7⟩
  · obtain ⟨f', k, id, l, c1, c2, c3, c4, c5, c6, c7, c8, c9, c10⟩ := a3 q x hq hx
    exact ⟨f', k, id, l, by rw [gA' 21 (by decide)]; exact c1, by rw [gA' 22 (by decide)]; exact c2, c3, c4, fun c w1 w2 => by rw [gA' 20 (by decide)]; exact c5 c w1 w2, by rw [gA' 18 (by decide)]; exact c6, c7, by rw [gJ']; exact c8, c9, c10⟩
theorem Cx_fN (h : Cx D M σ) (g : fN f σ τ) : Cx D M τ := Cx_fM h (fN_M g)
def Rg (D : List Tm) (σ : am_S) (f p : Nat) (x : Tm) : Prop := (kd x = 3 ∨ kd x = 4) ∧ ∃ l, idl D l ∧ l.Pairwise (· ≤ ·) ∧ gJ σ 25 (40 * f + p) = lN (rE (kd x) l)
def Op (D : List Tm) (σ : am_S) (f p : Nat) (x : Tm) : Prop := ∃ b k, gA σ 22 p = nI k ∧ k ≤ 8 ∧ gA σ 24 (40 * f + p) = nI b ∧ b < 2 ^ k ∧ (b ≠ 0 → Rg D σ f p x)
def Fr (D M : List Tm) (f : Nat) (σ : am_S) : Prop := (∀ p x, M[p]? = some x → Op D σ f p x) ∧ ∀ k, k < 4 → gv D (gJ σ 26 (4 * f + k))
theorem ix40 (f p : Nat) : nI f * (40 : Int32) + nI p = nI (40 * f + p) := by
  show nI f * nI 40 + nI p = _
  rw [pk_mul, nI_add, Nat.mul_comm]
theorem ix4 (f p : Nat) : nI f * (4 : Int32) + nI p = nI (4 * f + p) := by
  show nI f * nI 4 + nI p = _
  rw [pk_mul, nI_add, Nat.mul_comm]
/-- a frame below another keeps what it holds -/
theorem Fr_fM (h : Fr D M f σ) (hM : M.length ≤ 40) (g : fM (f + 1) σ τ) : Fr D M f τ := by
  have gA' : gA τ 22 = gA σ 22 := g.1.2.1 22 (by decide)
  refine ⟨fun p x hx => ?_, fun k hk => by rw [g.2.2 _ (by omega)]; exact h.2 k hk⟩
  have hp := (List.getElem?_eq_some_iff.mp hx).1
  obtain ⟨b, k, c1, c2, c3, c4, c5⟩ := h.1 p x hx
  obtain ⟨e1, e2⟩ := g.2.1 (40 * f + p) (by omega)
  refine ⟨b, k, by rw [gA']; exact c1, c2, e1.trans c3, c4, fun hb => ?_⟩
  obtain ⟨r1, l, r2, r3, r4⟩ := c5 hb
  exact ⟨r1, l, r2, r3, e2.trans r4⟩
theorem x_rank {v : Int32} {Q : Int32 → am_S → Prop} (H : ∀ r, r < 4 → Q (nI r) σ) : am_K ri am_Lx IX4_rankOf (d + 2) [.ref 16, .int v] σ Q := by
  refine vX4_rankOf (vJ6_bitCount_0f7a4 ?_)
  obtain ⟨r, hr, e⟩ := pk_andE _ (m := 3) 2 (by decide)
  rw [e]
  exact H r hr
theorem Ins_gv (hI : Ins D σ) {a : Nat} (h1 : 1 ≤ a) (h2 : a ≤ D.length) : gv D (gJ σ 15 a) := by
  obtain ⟨i, rfl⟩ : ∃ i, a = i + 1 := ⟨a - 1, by omega⟩
  have hi : i < D.length := by omega
  have hx := List.getElem?_eq_getElem hi
  obtain ⟨l, c1, c2, c3⟩ := hI.2.2.2 i _ hx
  obtain ⟨hc, hf⟩ := hI.1.2.2.2 _ (List.getElem_mem hi)
  obtain ⟨-, hloc, -⟩ := Can_pts hc
  obtain ⟨hk4, -⟩ := loc_bd hloc
  have hid := ids_idl c1 (fits_pts hc hf).1
  rw [c3]
  unfold vl
  split
  · exact ⟨kd D[i], l, hk4, hid, rfl, fun _ => by omega⟩
  · exact ⟨0, [i + 1], by decide, ⟨by simp, fun a ha => by rw [List.mem_singleton.mp ha]; omega⟩, rfl, fun z => absurd z (by simp)⟩
theorem x_valueOf {k : Nat} {l : List Nat} {Q : Int64 → am_S → Prop} (hI : Ins D σ) (hk : k ≤ 4) (hl : idl D l) (h2 : 2 ≤ l.length → k = 3 ∨ k = 4) (H : ∀ v, gv D v → Q v σ) : am_K rj am_Lx IX1_valueOf (d + 2) [.ref 12, .long (lN (rE k l))] σ Q := by
  have h40 := hI.2.1
  have hg := idl_rG hl h40
  have h8 := hg.1
  refine vX1_valueOf (r_size (d := d) hk hg ⟨fun _ => H _ ⟨k, l, hk, hl, rfl, h2⟩, fun e => ?_⟩)
  have h1 : l.length = 1 := (nI_eq (b := 1) (by omega) (by decide)).mp e
  have h0 : 0 < l.length := by omega
  refine r_at (i := 0) (d := d) hk hg h0 ?_
  obtain ⟨a1, a2⟩ := hl.2 _ (List.getElem_mem h0)
  rw [nI_clamp (by omega)]
  exact ⟨vp_in_nI (by omega) (by omega), H _ (Ins_gv hI a1 a2)⟩
theorem kd_Rp {t : Nat} {x : Tm} (hc : Can x) (hr : Rp σ t x) : ∃ b, gS σ t 0 = nI (kd x) ∧ gS σ t 1 = nI (nm x) ∧ gQ σ t = some b ∧ isAr σ b (pts x).length := by
  obtain ⟨ex, hloc, hcp⟩ := Can_pts hc
  have hr' : Rp σ t (node (kd x) (nm x) (pts x)) := by rw [← ex]; exact hr
  obtain ⟨b, b1, b2, b3, b4, -⟩ := Rp_out (fun y hy => Can_wf (hcp y hy)) hr'
  exact ⟨b, b1, b2, b3, b4⟩
theorem kd4 {x : Tm} (hc : Can x) : kd x ≤ 4 := (loc_bd (Can_pts hc).2.1).1
theorem x_alike {p i : Nat} {x y : Tm} {Q : Int32 → am_S → Prop} (hC : Cx D M σ) (hx : M[p]? = some x) (hy : D[i]? = some y) (H0 : Q 0 σ) (H1 : kd x = kd y → (kd x = 2 → (pts x).length = (pts y).length) → Q 1 σ) : am_K ri am_Lx IX3_alike (d + 1) [.ref 11, .int (nI p), .int (nI (i + 1))] σ Q := by
  obtain ⟨hI, hP, hM⟩ := hC
  have h40 := hI.2.1
  have hp := (List.getElem?_eq_some_iff.mp hx).1
  have hi := (List.getElem?_eq_some_iff.mp hy).1
  obtain ⟨hcx, hfx, t, m, o, c1, c2, -⟩ := hP.2.1 p x hx
  obtain ⟨u, e1, e2⟩ := hI.1.2.2.1 i y hy
  obtain ⟨hcy, hfy⟩ := hI.1.2.2.2 y (List.mem_of_getElem? hy)
  obtain ⟨b, b1, b2, b3, b4⟩ := kd_Rp hcx c2
  obtain ⟨a, a1, a2, a3, a4⟩ := kd_Rp hcy e2
  have k1 := kd4 hcx
  have k2 := kd4 hcy
  have l1 := (fits_pts hcx hfx).1
  have l2 := (fits_pts hcy hfy).1
  refine vX3_alike ⟨vp_in_nI (by omega) (by omega), ?_⟩
  rw [nI_clamp (by omega), nI_clamp (by omega)]
  refine o_s c1 ⟨vp_in_nI (by omega) (by omega), o_s e1 ⟨Rp_T c2, Rp_T e2, fun _ => H0, fun ek => ⟨Rp_T c2, Rp_T e2, fun _ => ⟨Rp_T c2, o_s b3 ⟨ar_A b4, Rp_T c2, fun n2 => ⟨Rp_T e2, o_s a3 ⟨ar_A a4, fun _ => H0, fun _ => ?_⟩⟩, fun y2 => ⟨Rp_T e2, o_s a3 ⟨ar_A a4, fun _ => H0, fun el => ?_⟩⟩⟩⟩, fun _ => H0⟩⟩⟩
  · rw [b1, a1] at ek
    refine H1 ((nI_eq (by omega) (by omega)).mp ek) (fun z => ?_)
    rw [b1, z] at n2
    exact absurd rfl n2
  · rw [b1, a1] at ek
    rw [ar_L b4, ar_L a4] at el
    exact H1 ((nI_eq (by omega) (by omega)).mp ek) (fun _ => (nI_eq (by omega) (by omega)).mp el)
theorem x_bound {r : Nat} {v : Int64} {Q : Int32 → am_S → Prop} (hF : Fr D M f σ) (hf : f ≤ 40) (hr : r < 4) (hv : gv D v) (H : ∀ w τ, w = 0 ∨ w = 1 → fN f σ τ → Fr D M f τ → Q w τ) : am_K ri am_Lx IX3_bound (d + 1) [.ref 11, .int (nI f), .int (nI r), .long v] σ Q := by
  refine vX3_bound ?_
  rw [ix4, nI_clamp (by omega)]
  have hvp : vp_in (nI (4 * f + r)) 164 := vp_in_nI (by omega) (by omega)
  have hF2 : Fr D M f (wJ σ 26 (4 * f + r) v) := by
    refine ⟨fun p x hx => ?_, fun k hk => ?_⟩
    · obtain ⟨b, k, c1, c2, c3, c4, c5⟩ := hF.1 p x hx
      refine ⟨b, k, c1, c2, c3, c4, fun hb => ?_⟩
      obtain ⟨r1, l, r2, r3, r4⟩ := c5 hb
      exact ⟨r1, l, r2, r3, by rw [wJ_ne (by omega)]; exact r4⟩
    · by_cases e : k = r
      · rw [e, wJ_at]
        exact hv
      · rw [wJ_ne (by omega)]
        exact hF.2 k hk
  have g2 : fN f σ (wJ σ 26 (4 * f + r) v) := fN_26 fN_rfl (by omega)
  exact ⟨hvp, fun _ => ⟨hvp, fun _ => H 0 σ (Or.inl rfl) fN_rfl hF, fun _ => H 1 σ (Or.inr rfl) fN_rfl hF⟩, fun _ => ⟨hvp, hvp, fun _ => H 0 _ (Or.inl rfl) g2 hF2, fun _ => H 1 _ (Or.inr rfl) g2 hF2⟩⟩
theorem x_less {k : Nat} {l : List Nat} {v : Int64} {Q : Int64 → am_S → Prop} (hI : Ins D σ) (hk : k ≤ 4) (hl : idl D l) (hv : gv D v) (H : ∀ o : Option (List Nat), (∀ r, o = some r → r.Sublist l) → Q (rO k o) σ) : am_K rj am_Lx IX3_less (d + 3) [.ref 11, .long (lN (rE k l)), .long v] σ Q := by
  obtain ⟨k', l', hk', hl', rfl, -⟩ := hv
  have h40 := hI.2.1
  have hg := idl_rG hl h40
  have hg' := idl_rG hl' h40
  have h8 := hg.1
  refine vX3_less (r_kind (d := d + 1) hk hg (r_kind (d := d + 1) hk' hg' ⟨fun _ => r_size (d := d + 1) hk hg ?_, fun _ => r_minus (d := d) hk hk' hg hg' (H _ (fun r hr => mns_sub hr))⟩))
  have loop : ∀ (q p : List Nat), l = p ++ q → am_X rj am_Lx IX3_less (d + 3) 26 [some (.ref 11), some (.long (lN (rE k l))), none, some (.long (lN (rE k' l'))), none, some (.int (nI l.length)), some (.int (nI p.length))] [] σ Q := by
    intro q
    induction q with
    | nil =>
      intro p e
      have e2 : l.length = p.length := by rw [e]; simp
      exact vX3_less_26 ⟨fun _ => H none (fun r z => by cases z), fun z => absurd (nI_le (by omega) (by omega)) z⟩
    | cons a q ih =>
      intro p e
      have hlen : l.length = p.length + q.length + 1 := by rw [e]; simp; omega
      have ha := hl.2 a (by rw [e]; exact List.mem_append_right _ List.mem_cons_self)
      refine vX3_less_26 ⟨fun z => absurd z (nI_ge (by omega) (by omega)), fun _ => ?_⟩
      have key := r_atS (σ := σ) (d := d + 1) (k := k) (p := p) (q := q) (a := a) (Q := fun r1 σ1 => (vp_in r1 64) ∧ (¬ (lg_cmp (gJ σ1 15 (r1).toNatClampNeg) (lN (rE k' l'))) = 0 → am_X rj am_Lx IX3_less (d + 3) 26 [some (.ref 11), some (.long (lN (rE k l))), none, some (.long (lN (rE k' l'))), none, some (.int (nI l.length)), some (.int (nI p.length + (1 : Int32)))] [] σ1 Q) ∧ ((lg_cmp (gJ σ1 15 (r1).toNatClampNeg) (lN (rE k' l'))) = 0 → am_K rj am_Lx IX7_without (d + 2) [.long (lN (rE k l)), .int (nI p.length)] σ1 (fun r2 σ2 => Q r2 σ2))) hk (by rw [← e]; exact hg) ⟨vp_in_nI (by omega) (by omega), fun _ => ?_, fun _ => ?_⟩
      · rw [← e] at key
        exact key
      · have := ih (p ++ [a]) (by rw [e]; simp)
        rw [List.length_append] at this
        rw [nI_1]
        exact this
      · have key2 := r_without (σ := σ) (d := d + 1) (k := k) (p := p) (q := q) (a := a) (Q := Q) hk (by rw [← e]; exact hg) (H (some (p ++ q)) (fun r hr => by
          cases hr
          rw [e]
          exact List.Sublist.append (List.Sublist.refl _) (List.sublist_cons_self _ _)))
        rw [← e] at key2
        exact key2
  exact loop l [] rfl
theorem cmp_0 {x y : Int64} (h : lg_cmp x y = 0) : x = y := by
  apply Int64.toInt_inj.mp
  have h1 : ¬ x.toInt < y.toInt := fun z => by
    have := (cmp_lt x y).mpr z
    rw [h] at this
    exact absurd this (by decide)
  have h2 : ¬ y.toInt < x.toInt := fun z => by
    have := (cmp_gt x y).mpr z
    rw [h] at this
    exact absurd this (by decide)
  omega
theorem cmp_miss {k : Nat} {l : List Nat} (hk : k ≤ 4) (hl : rG l) : ¬ lg_cmp (lN (rE k l)) (-1) = 0 := by
  intro h
  have e : lN (rE k l) = -1 := cmp_0 h
  have h1 := rE_lt hk hl
  have h2 := congrArg (fun z => z.toBitVec.toNat) e
  have h3 : (lN (rE k l)).toBitVec.toNat = rE k l := j_tn (by omega)
  have h4 : ((-1 : Int64)).toBitVec.toNat = 18446744073709551615 := by decide
  have h5 : rE k l = 18446744073709551615 := by rw [← h3]; exact h2.trans h4
  omega
end MB
