/-! ===== part, order, join ===== -/
/-- frame of the reference's calls that make terms -/
def mW (σ τ : am_S) : Prop := (∀ n k, (n, k) ∉ [(0, 4), (0, 5), (0, 7)] → gS τ n k = gS σ n k) ∧ (∀ n, n ∉ [1, 2, 3, 4, 5, 7] → gA τ n = gA σ n) ∧ (∀ n, 1 ≤ n → n ≤ 4 → ∀ i, 640 ≤ i → i < 17280 → gA τ n i = gA σ n i) ∧ τ.2 = σ.2
section C2
variable {σ τ υ : am_S} {V : Sv} {d : Nat}
theorem mW_rfl : mW σ σ := ⟨fun _ _ _ => rfl, fun _ _ => rfl, fun _ _ _ _ _ _ => rfl, rfl⟩
theorem mW_trans (h : mW σ τ) (g : mW τ υ) : mW σ υ := ⟨fun n k z => (g.1 n k z).trans (h.1 n k z), fun n z => (g.2.1 n z).trans (h.2.1 n z), fun n a b i z w => (g.2.2.1 n a b i z w).trans (h.2.2.1 n a b i z w), g.2.2.2.trans h.2.2.2⟩
theorem mW_wk {lo f : Nat} (h : wk lo f σ τ) (hl : 17280 ≤ lo) : mW σ τ := ⟨h.1, fun n hn => h.2.1 n (fun z => hn (by simp at z ⊢; omega)), fun n a b i _ hi => h.2.2.1 n a b i (by omega), h.2.2.2.2.2.2.2⟩
theorem mW_sto {s : Nat} {x : Tm} (h : sto s x σ τ) (hs : s < 16) (hx : x.length ≤ 40) : mW σ τ := ⟨fun n k _ => by rw [h.1], fun n hn => h.2.1 n (fun z => hn (by simp at z ⊢; omega)), fun n a b i h1 _ => h.2.2.1 n a b i (by omega), h.2.2.2.2.2.2⟩
theorem Sm_wk {lo f : Nat} (h : Sm σ V) (g : wk lo f σ τ) (hl : 640 ≤ lo) : Sm τ V := by
  intro s hs
  have e7 : gA τ 7 = gA σ 7 := g.2.1 7 (by simp)
  rcases h s hs with ⟨v1, v2⟩ | ⟨x, v1, v2, hc, hf, hr⟩
  · exact Or.inl ⟨v1, by rw [e7]; exact v2⟩
  · have := hf.1
    exact Or.inr ⟨x, v1, by rw [e7]; exact v2, hc, hf, wk_seg g (by omega) hr⟩
theorem Sm_sto {s : Nat} {x : Tm} (h : Sm σ V) (g : sto s x σ τ) (hc : Can x) (hf : fits x) : Sm τ (uV V s x) := by
  obtain ⟨g1, g2, g3, g4, g5, g6, g7⟩ := g
  intro k hk
  unfold uV
  by_cases e : k = s
  · subst e
    rw [if_pos rfl]
    exact Or.inr ⟨x, rfl, g5, hc, hf, g6⟩
  · rw [if_neg e]
    have hl := hf.1
    rcases h k hk with ⟨v1, v2⟩ | ⟨y, v1, v2, hc2, hf2, hr⟩
    · exact Or.inl ⟨v1, by rw [g4 k e]; exact v2⟩
    · have := hf2.1
      refine Or.inr ⟨y, v1, by rw [g4 k e]; exact v2, hc2, hf2, seg_move (fun a h1 h4 i hi => g3 a h1 h4 _ ?_) hr⟩
      omega
theorem Sx_ext (h : Sx σ V) (e : ext σ τ) (h1 : gP τ 1 = gP σ 1) : Sx τ V := by
  intro s hs
  rcases h s hs with ⟨v1, v2⟩ | ⟨x, t, v1, v2, hc, hf, hr⟩
  · exact Or.inl ⟨v1, by rw [h1]; exact v2⟩
  · exact Or.inr ⟨x, t, v1, by rw [h1]; exact v2, hc, hf, Rp_ext e hr⟩
theorem Sx_keep {k t : Nat} {x : Tm} (h : Sx σ V) (hr : Rp σ t x) (hc : Can x) (hf : fits x) : Sx (wP σ 1 k (some t)) (uV V k x) := by
  have e : ext σ (wP σ 1 k (some t)) := gw_ext (gw_wP (S := []) (A := []) (J := []) (P := [1]) (c := 0) (s := 0) gw_rfl (by simp) (by omega))
  intro s hs
  unfold uV
  by_cases es : s = k
  · subst es
    rw [if_pos rfl]
    exact Or.inr ⟨x, t, rfl, wP_at _ _ _ _, hc, hf, Rp_ext e hr⟩
  · rw [if_neg es]
    rcases h s hs with ⟨v1, v2⟩ | ⟨y, u, v1, v2, hc2, hf2, hr2⟩
    · exact Or.inl ⟨v1, by rw [wP_ne (fun z => es z.2)]; exact v2⟩
    · exact Or.inr ⟨y, u, v1, by rw [wP_ne (fun z => es z.2)]; exact v2, hc2, hf2, Rp_ext e hr2⟩
theorem x_kept {k : Nat} {o : Option Nat} {x : Tm} {Q : Int32 → am_S → Prop} (hk : k < 16) (hr : Ro σ o x) (hV : Sx σ V) (h1 : fits x → ∀ τ, gw [] [] [] [1] 0 0 σ τ → Sx τ (uV V k x) → Q (nI x.length) τ) (h0 : ¬ fits x → Q (-4) σ) : (o = none → am_K ri am_Lx IX10_kept (d + 1) [.ref 0, .int (nI k), .null] σ Q) ∧ (∀ t, o = some t → am_K ri am_Lx IX10_kept (d + 1) [.ref 0, .int (nI k), .ref t] σ Q) := by
  constructor
  · intro e
    subst e
    exact vX10_kept_n (h0 (Ro_none hr))
  · intro t e
    subst e
    obtain ⟨hf, hp⟩ := Ro_some hr
    refine vX10_kept_r ?_
    rw [(Rp_kd hp).2.2.1, nI_clamp (n := k) (by omega)]
    exact ⟨vp_in_nI hk (by decide), Rp_T hp, Rp_T (Rp_ext (gw_ext (gw_wP (S := []) (A := []) (J := []) (P := [1]) (c := 0) (s := 0) gw_rfl (by simp) (by omega))) hp), h1 hf _ (gw_wP gw_rfl (by simp) (by omega)) (Sx_keep hV hp hr.1 hf)⟩
theorem i_out {n : Int32} {a b : Nat} (h : ¬ ((a : Int) ≤ n.toInt ∧ n.toInt ≤ b)) : n.toInt < a ∨ (b : Int) < n.toInt := by omega
theorem x_part {s i t : Int32} {Q : Int32 → am_S → Prop} (hV : Sx σ V) (hb : ¬ (isSl s ∧ isSl t) → Q (-1) σ) (hn : ∀ k, k < 16 → s = nI k → isSl t → V k = none → Q (-2) σ) (hi : ∀ k x, k < 16 → s = nI k → isSl t → V k = some x → ¬ (0 ≤ i.toInt ∧ i.toInt < (pts x).length) → Q (-1) σ) (h1 : ∀ k x j y l τ, k < 16 → s = nI k → V k = some x → i = nI j → (pts x)[j]? = some y → l < 16 → t = nI l → gw [] [] [] [1] 0 0 σ τ → Sx τ (uV V l y) → Q (nI y.length) τ) : am_K ri am_Lx IX10_part (d + 2) [.ref 0, .int s, .int i, .int t] σ Q := by
  refine vX10_part (xs_slot (d := d) (fun k hk e => ⟨fun z => absurd z (by decide), fun _ => ?_⟩) (fun h => ⟨fun _ => hb fun z => h z.1, fun z => absurd rfl z⟩))
  refine xs_slot (d := d) (fun l hl e2 => ⟨fun _ => ?_, fun z => absurd z (by decide)⟩) (fun h => ⟨fun z => absurd rfl z, fun _ => hb fun z => h z.2⟩)
  have hst : isSl t := by rw [e2]; exact nI_sl hl
  refine ⟨by rw [e]; exact vp_in_nI hk (by decide), ?_⟩
  rw [e, nI_clamp (n := k) (by omega)]
  rcases hV k hk with ⟨v1, v2⟩ | ⟨x, u, v1, v2, hc, hf, hr⟩
  · exact o_n v2 (hn k hk e hst v1)
  · refine o_s v2 ?_
    obtain ⟨b, q1, q2, q3⟩ := Rp_pts hr
    have hT := Rp_T hr
    have hpl := (fits_pts hc hf).1
    by_cases hw : 0 ≤ i.toInt ∧ i.toInt ≤ (((pts x).length - 1 : Nat) : Int) ∧ 1 ≤ (pts x).length
    · obtain ⟨j, _, hj, ei⟩ := i_2 (n := i) (lo := 0) (hi := (pts x).length - 1) (by omega) ⟨hw.1, hw.2.1⟩
      subst ei
      have hjl : j < (pts x).length := by omega
      obtain ⟨w, w1, w2⟩ := q3 j _ (List.getElem?_eq_getElem hjl)
      refine ⟨fun z => absurd z (nI_pos (by omega)), fun _ => ⟨hT, o_s q1 ⟨ar_A q2, ?_⟩⟩⟩
      rw [ar_L q2]
      refine pk_lt j (pts x).length (fun _ => ⟨hT, o_s q1 ⟨ar_R q2, by rw [ar_L q2]; exact vp_in_nI hjl (by omega), ?_⟩⟩) (fun h => by omega)
      rw [nI_clamp (n := j) (by omega), e2]
      have hm := List.getElem_mem hjl
      have hfy := (fits_pts hc hf).2 _ hm
      have := x_kept (d := d) (Q := fun r7 σ7 => Q r7 σ7) (V := V) hl (show Ro σ (gP σ b j) (pts x)[j] from ⟨(Can_pts hc).2.2 _ hm, Or.inl ⟨hfy, w, w1, w2⟩⟩) hV (fun _ τ g1 g2 => h1 k x j _ l τ hk e v1 rfl (List.getElem?_eq_getElem hjl) hl e2 g1 g2) (fun z => absurd hfy z)
      exact this
    · have hq := hi k x hk e hst v1 (by omega)
      refine ⟨fun _ => hq, fun z => ⟨hT, o_s q1 ⟨ar_A q2, ?_⟩⟩⟩
      rw [ar_L q2]
      refine ⟨fun z2 => ?_, fun _ => hq⟩
      exfalso
      rw [i_lt, l_0] at z
      have e3 : (Int32.ofNat (pts x).length).toInt = ((pts x).length : Int) := nI_toInt (by omega)
      rw [i_lt, e3] at z2
      exact hw ⟨by omega, by omega, by omega⟩
theorem m_part {s i t : Int32} {Q : Int32 → am_S → Prop} (hV : Sm σ V) (hb : ¬ (isSl s ∧ isSl t) → Q (-1) σ) (hn : ∀ k, k < 16 → s = nI k → isSl t → V k = none → Q (-2) σ) (hi : ∀ k x, k < 16 → s = nI k → isSl t → V k = some x → ¬ (0 ≤ i.toInt ∧ i.toInt < (pts x).length) → Q (-1) σ) (h1 : ∀ k x j y l τ, k < 16 → s = nI k → V k = some x → i = nI j → (pts x)[j]? = some y → l < 16 → t = nI l → mW σ τ → Sm τ (uV V l y) → Q (nI y.length) τ) : am_K ri am_Lm IX11_part (d + 3) [.ref 0, .int s, .int i, .int t] σ Q := by
  refine vX11_part (ms_slot (d := d) (fun k hk e => ⟨fun z => absurd z (by decide), fun _ => ?_⟩) (fun h => ⟨fun _ => hb fun z => h z.1, fun z => absurd rfl z⟩))
  refine ms_slot (d := d) (fun l hl e2 => ⟨fun _ => ?_, fun z => absurd z (by decide)⟩) (fun h => ⟨fun z => absurd rfl z, fun _ => hb fun z => h z.2⟩)
  have hst : isSl t := by rw [e2]; exact nI_sl hl
  refine ⟨by rw [e]; exact vp_in_nI hk (by decide), ?_⟩
  rw [e, nI_clamp (n := k) (by omega)]
  rcases hV k hk with ⟨v1, v2⟩ | ⟨x, v1, v2, hc, hf, hr⟩
  · rw [v2]
    exact ⟨fun z => absurd rfl z, fun _ => hn k hk e hst v1⟩
  · rw [v2]
    refine ⟨fun _ => ?_, fun z => absurd z (by decide)⟩
    have hwx := Can_wf hc
    obtain ⟨r1, r2, r3, r4⟩ := seg_kd hwx hr
    have hfl := hf.1
    have hpl := (fits_pts hc hf).1
    have hpx := (wf_pts hwx).2.2
    rw [m_40, nI_clamp (n := 40 * k) (by omega), r3]
    refine ⟨vp_in_nI (by omega) (by decide), ?_⟩
    refine ⟨_, _, m_inI (a := 0) (b := ((pts x).length : Int) - 1) rfl (i_s64 rfl (by omega)), ?_⟩
    by_cases hw : 0 ≤ i.toInt ∧ i.toInt ≤ ((pts x).length : Int) - 1
    · rw [b01_t hw]
      refine ⟨fun _ => ?_, fun z => absurd z (by decide)⟩
      obtain ⟨j, _, hj, ei⟩ := i_2 (n := i) (lo := 0) (hi := (pts x).length - 1) (by omega) ⟨hw.1, by omega⟩
      subst ei
      have hjl : j < (pts x).length := by omega
      have hm := List.getElem_mem hjl
      have hcy := (Can_pts hc).2.2 _ hm
      have hfy := (fits_pts hc hf).2 _ hm
      have hfyl := hfy.1
      refine vX11_begin ⟨Or.inl rfl, ?_⟩
      generalize hσ1 : wS (wS (wS σ 0 4 (17280 : Int32)) 0 5 (0 : Int32)) 0 7 (0 : Int32) = σ1
      have g1 : wk 17280 0 σ σ1 := by rw [← hσ1]; exact wk_S (wk_S (wk_S wk_rfl (by simp)) (by simp)) (by simp)
      have t4 : gS σ1 0 4 = nI 17280 := by rw [← hσ1, wS_ne (by omega), wS_ne (by omega), wS_at]; rfl
      have t5 : gS σ1 0 5 = nI 0 := by rw [← hσ1, wS_ne (by omega), wS_at]; rfl
      have hr1 := wk_seg g1 (by omega) hr
      rw [t4]
      refine m_partAt (d := d + 1) hwx hr1 (by omega) (by omega) ?_
      have hsy := seg_pts hwx hr1 j _ (List.getElem?_eq_getElem hjl)
      have o1 := off_s hjl
      have o2 := off_le (pts x) (j + 1)
      refine m_copy (d := d + 1) (q := 17280) (Can_wf hcy) hsy (by omega) (by omega) (Or.inl (by omega)) (fun υ c1 c2 => ?_)
      have g2 : wk 17280 0 σ υ := wk_trans g1 (cw_wk c1)
      rw [e2]
      refine m_store (d := d) (b := 0) hl (Can_wf hcy) (by rw [c1.1]; exact t5) (by omega) (fun _ => ⟨17280, rfl, by omega, by omega, c2⟩) (fun _ _ τ hst => ?_) (fun z => absurd hfy (z rfl))
      exact h1 k x j _ l τ hk e v1 rfl (List.getElem?_eq_getElem hjl) hl e2 (mW_trans (mW_wk g2 (Nat.le_refl _)) (mW_sto hst hl hfyl)) (Sm_sto (Sm_wk hV g2 (by omega)) hst hcy hfy)
    · rw [b01_f hw]
      exact ⟨fun z => absurd rfl z, fun _ => hi k x hk e hst v1 (by omega)⟩
theorem x_order {s t : Int32} {Q : Int32 → am_S → Prop} (hV : Sx σ V) (hb : ¬ (isSl s ∧ isSl t) → Q (-1) σ) (hn : ∀ k l, k < 16 → l < 16 → s = nI k → t = nI l → (V k = none ∨ V l = none) → Q (-2) σ) (h1 : ∀ k l x y, k < 16 → l < 16 → s = nI k → t = nI l → V k = some x → V l = some y → (tlt x y → Q 1 σ) ∧ (x = y → Q 0 σ) ∧ (tlt y x → Q 2 σ)) : am_K ri am_Lx IX10_order (d + 42) [.ref 0, .int s, .int t] σ Q := by
  refine vX10_order (xs_slot (d := d + 40) (fun k hk e => ⟨fun z => absurd z (by decide), fun _ => ?_⟩) (fun h => ⟨fun _ => hb fun z => h z.1, fun z => absurd rfl z⟩))
  refine xs_slot (d := d + 40) (fun l hl e2 => ⟨fun _ => ?_, fun z => absurd z (by decide)⟩) (fun h => ⟨fun z => absurd rfl z, fun _ => hb fun z => h z.2⟩)
  refine ⟨by rw [e]; exact vp_in_nI hk (by decide), ?_⟩
  have vl : vp_in t 16 := by rw [e2]; exact vp_in_nI hl (by decide)
  rw [e, e2, nI_clamp (n := k) (by omega), nI_clamp (n := l) (by omega), ← e2]
  rcases hV k hk with ⟨v1, v2⟩ | ⟨x, u, v1, v2, hc, hf, hr⟩
  · have hq := hn k l hk hl e e2 (Or.inl v1)
    exact o_n v2 ⟨vl, fun _ => hq, fun _ _ => hq⟩
  · refine o_s v2 ⟨vl, ?_⟩
    rcases hV l hl with ⟨w1, w2⟩ | ⟨y, u2, w1, w2, hc2, hf2, hr2⟩
    · exact o_n w2 (hn k l hk hl e e2 (Or.inr w1))
    · refine o_s w2 ?_
      obtain ⟨q1, q2, q3⟩ := h1 k l x y hk hl e e2 v1 w1
      have h40 := hf.1
      have h41 := hf2.1
      rw [show d + 41 = (d + 40 - x.length) + x.length + 1 by omega]
      refine x_compare x hc y u u2 0 _ σ _ hc2 hr hr2 (by omega) (by omega) (fun h v hv => ?_) (fun h => ?_) (fun h v hv => ?_)
      · refine ⟨fun _ => ⟨fun z => ?_, fun _ => q1 h⟩, fun z => absurd hv (by rw [z]; decide)⟩
        exfalso
        rw [i_lt, l_0] at hv
        rw [i_le, l_0] at z
        omega
      · exact ⟨fun z => absurd rfl z, fun _ => q2 h⟩
      · refine ⟨fun _ => ⟨fun _ => q3 h, fun z => ?_⟩, fun z => absurd hv (by rw [z]; decide)⟩
        exfalso
        rw [i_lt, l_0] at hv
        rw [i_le, l_0] at z
        omega
theorem m_order {s t : Int32} {Q : Int32 → am_S → Prop} (hV : Sm σ V) (hb : ¬ (isSl s ∧ isSl t) → Q (-1) σ) (hn : ∀ k l, k < 16 → l < 16 → s = nI k → t = nI l → (V k = none ∨ V l = none) → Q (-2) σ) (h1 : ∀ k l x y, k < 16 → l < 16 → s = nI k → t = nI l → V k = some x → V l = some y → (tlt x y → Q 1 σ) ∧ (x = y → Q 0 σ) ∧ (tlt y x → Q 2 σ)) : am_K ri am_Lm IX11_order (d + 42) [.ref 0, .int s, .int t] σ Q := by
  refine vX11_order (ms_slot (d := d + 39) (fun k hk e => ⟨fun z => absurd z (by decide), fun _ => ?_⟩) (fun h => ⟨fun _ => hb fun z => h z.1, fun z => absurd rfl z⟩))
  refine ms_slot (d := d + 39) (fun l hl e2 => ⟨fun _ => ?_, fun z => absurd z (by decide)⟩) (fun h => ⟨fun z => absurd rfl z, fun _ => hb fun z => h z.2⟩)
  refine ⟨by rw [e]; exact vp_in_nI hk (by decide), ?_⟩
  have vl : vp_in t 16 := by rw [e2]; exact vp_in_nI hl (by decide)
  rw [e, nI_clamp (n := k) (by omega)]
  rcases hV k hk with ⟨v1, v2⟩ | ⟨x, v1, v2, hc, hf, hr⟩
  · rw [v2]
    exact ⟨fun _ => hn k l hk hl e e2 (Or.inl v1), fun z => absurd rfl z⟩
  · rw [v2]
    refine ⟨fun z => absurd z (by decide), fun _ => ⟨vl, ?_⟩⟩
    rw [e2, nI_clamp (n := l) (by omega)]
    rcases hV l hl with ⟨w1, w2⟩ | ⟨y, w1, w2, hc2, hf2, hr2⟩
    · rw [w2]
      exact ⟨fun z => absurd rfl z, fun _ => hn k l hk hl e e2 (Or.inr w1)⟩
    · rw [w2]
      refine ⟨fun _ => ?_, fun z => absurd z (by decide)⟩
      obtain ⟨q1, q2, q3⟩ := h1 k l x y hk hl e e2 v1 w1
      have h40 := hf.1
      have h41 := hf2.1
      rw [m_40, m_40, show d + 41 = (d + 41 - x.length) + x.length by omega]
      refine m_ordered x.length x y σ (40 * k) (40 * l) _ _ (canF_len x hc) hc2 hr hr2 (by omega) (by omega) (fun h v hv => ?_) (fun h => ?_) (fun h v hv => ?_)
      · refine ⟨fun _ => ⟨fun z => ?_, fun _ => q1 h⟩, fun z => absurd hv (by rw [z]; decide)⟩
        exfalso
        rw [i_lt, l_0] at hv
        rw [i_le, l_0] at z
        omega
      · exact ⟨fun z => absurd rfl z, fun _ => q2 h⟩
      · refine ⟨fun _ => ⟨fun _ => q3 h, fun z => ?_⟩, fun z => absurd hv (by rw [z]; decide)⟩
        exfalso
        rw [i_lt, l_0] at hv
        rw [i_le, l_0] at z
        omega
theorem x_join {s t a u : Int32} {Q : Int32 → am_S → Prop} (hV : Sx σ V) (htop : gS σ 3 3 = nI 0) (hbu : bud 2 13 σ) (hb : ¬ (isSl s ∧ isSl t ∧ (0 ≤ a.toInt ∧ a.toInt ≤ 1) ∧ isSl u) → Q (-1) σ) (hn : ∀ k l, k < 16 → l < 16 → s = nI k → t = nI l → (0 ≤ a.toInt ∧ a.toInt ≤ 1) → isSl u → (V k = none ∨ V l = none) → Q (-2) σ) (h1 : ∀ k l x y b w, k < 16 → l < 16 → s = nI k → t = nI l → V k = some x → V l = some y → b < 2 → a = nI b → w < 16 → u = nI w → ∀ τ, gw [(3, 3)] [] [] [1, 5, 6] 2 13 σ τ → gS τ 3 3 = nI 0 → (fits (joinT (3 + b) [x, y]) → Sx τ (uV V w (joinT (3 + b) [x, y])) → Q (nI (joinT (3 + b) [x, y]).length) τ) ∧ (¬ fits (joinT (3 + b) [x, y]) → Sx τ V → Q (-4) τ)) : am_K ri am_Lx IX10_join (d + 44) [.ref 0, .int s, .int t, .int a, .int u] σ Q := by
  refine vX10_join (xs_slot (d := d + 42) (fun k hk e => ⟨fun z => absurd z (by decide), fun _ => ?_⟩) (fun h => ⟨fun _ => hb fun z => h z.1, fun z => absurd rfl z⟩))
  refine xs_slot (d := d + 42) (fun l hl e2 => ⟨fun z => absurd z (by decide), fun _ => ?_⟩) (fun h => ⟨fun _ => hb fun z => h z.2.1, fun z => absurd rfl z⟩)
  refine xs_sym (d := d + 42) (fun b hb2 e3 => ⟨fun z => absurd z (by decide), fun _ => ?_⟩) (fun h => ⟨fun _ => hb fun z => h z.2.2.1, fun z => absurd rfl z⟩)
  refine xs_slot (d := d + 42) (fun w hw e4 => ⟨fun _ => ?_, fun z => absurd z (by decide)⟩) (fun h => ⟨fun z => absurd rfl z, fun _ => hb fun z => h z.2.2.2⟩)
  have ha : 0 ≤ a.toInt ∧ a.toInt ≤ 1 := by rw [e3, nI_toInt (by omega)]; omega
  have hu : isSl u := by rw [e4]; exact nI_sl hw
  refine ⟨by rw [e]; exact vp_in_nI hk (by decide), ?_⟩
  have vl : vp_in t 16 := by rw [e2]; exact vp_in_nI hl (by decide)
  rw [e, e2, nI_clamp (n := k) (by omega), nI_clamp (n := l) (by omega), ← e2]
  rcases hV k hk with ⟨v1, v2⟩ | ⟨x, p, v1, v2, hc, hf, hr⟩
  · have hq := hn k l hk hl e e2 ha hu (Or.inl v1)
    exact o_n v2 ⟨vl, fun _ => hq, fun _ _ => hq⟩
  refine o_s v2 ⟨vl, ?_⟩
  rcases hV l hl with ⟨w1, w2⟩ | ⟨y, p2, w1, w2, hc2, hf2, hr2⟩
  · exact o_n w2 (hn k l hk hl e e2 ha hu (Or.inr w1))
  refine o_s w2 (vX2_mark ?_)
  rw [htop]
  refine (x_push (d := d + 42) (mk := 0) (by omega) htop (show Ro σ (some p) x from ⟨hc, Or.inl ⟨hf, p, rfl, hr⟩⟩) ?_).2 p rfl
  generalize hσ1 : wS (wP σ 5 0 (some p)) 3 3 (nI (0 + 1)) = σ1
  have g1 : gw [(3, 3)] [] [] [5] 0 0 σ σ1 := by rw [← hσ1]; exact gw_wS (gw_wP gw_rfl (by simp) (by omega)) (by simp) (by omega)
  refine (x_push (d := d + 42) (mk := 1) (by omega) (by rw [← hσ1]; exact wS_at _ _ _ _) (show Ro σ1 (some p2) y from ⟨hc2, Or.inl ⟨hf2, p2, rfl, Rp_ext (gw_ext g1) hr2⟩⟩) ?_).2 p2 rfl
  generalize hσ2 : wS (wP σ1 5 1 (some p2)) 3 3 (nI (1 + 1)) = σ2
  have g2 : gw [(3, 3)] [] [] [5] 0 0 σ σ2 := by rw [← hσ2]; exact gw_wS (gw_wP g1 (by simp) (by omega)) (by simp) (by omega)
  have ek : (3 : Int32) + a = nI (3 + b) := by rw [e3]; exact nI_add 3 b
  rw [ek]
  have hk34 : 3 + b = 3 ∨ 3 + b = 4 := by omega
  have c50 : gP σ2 5 0 = some p := by
    rw [← hσ2]
    show gP (wP σ1 5 1 (some p2)) 5 0 = _
    rw [wP_ne (by omega), ← hσ1]
    exact wP_at _ _ _ _
  have c51 : gP σ2 5 1 = some p2 := by
    rw [← hσ2]
    exact wP_at _ _ _ _
  refine x_together (d := d) (mk := 0) (xs := [x, y]) hk34 (by simp) (by simp) (by rw [← hσ2]; exact wS_at _ _ _ _) (fun i z hz => ?_) (bud_gw (c := 0) (s := 0) (by simpa using hbu) g2) (fun o τ t1 t2 t3 => ?_)
  · have hi := get_lt hz
    simp at hi
    rcases (show i = 0 ∨ i = 1 by omega) with h | h
    · subst h
      simp at hz
      subst hz
      rw [c50]
      exact ⟨hc, Or.inl ⟨hf, p, rfl, Rp_ext (gw_ext g2) hr⟩⟩
    · subst h
      simp at hz
      subst hz
      rw [c51]
      exact ⟨hc2, Or.inl ⟨hf2, p2, rfl, Rp_ext (gw_ext g2) hr2⟩⟩
  · have g3 : gw [(3, 3)] [] [] [1, 5, 6] 2 13 σ τ := by
      have := gw_trans (gw_mono (S' := [(3, 3)]) (A' := []) (J' := []) (P' := [1, 5, 6]) g2 (by simp) (by simp) (by simp) (by simp) (Nat.le_refl _) (Nat.le_refl _)) (gw_mono (S' := [(3, 3)]) (A' := []) (J' := []) (P' := [1, 5, 6]) t1 (by simp) (by simp) (by simp) (by simp) (Nat.le_refl _) (Nat.le_refl _))
      simpa using this
    have hV2 : Sx τ V := Sx_ext hV (gw_ext g3) (by rw [gw_P t1 (by omega) (by simp), gw_P g2 (by omega) (by simp)])
    rw [e4]
    refine x_kept (d := d + 42) hw t3 hV2 (fun hff υ k1 k2 => ?_) (fun hff => (h1 k l x y b w hk hl e e2 v1 w1 hb2 e3 hw e4 τ g3 t2).2 hff hV2)
    have g4 := gw_trans g3 (gw_mono (S' := [(3, 3)]) (A' := []) (J' := []) (P' := [1, 5, 6]) k1 (by simp) (by simp) (by simp) (by simp) (Nat.le_refl _) (Nat.le_refl _))
    exact (h1 k l x y b w hk hl e e2 v1 w1 hb2 e3 hw e4 υ (by simpa using g4) (by rw [gw_S k1 (by omega) (by simp)]; exact t2)).1 hff k2
theorem m_join {s t a u : Int32} {Q : Int32 → am_S → Prop} (hV : Sm σ V) (hb : ¬ (isSl s ∧ isSl t ∧ (0 ≤ a.toInt ∧ a.toInt ≤ 1) ∧ isSl u) → Q (-1) σ) (hn : ∀ k l, k < 16 → l < 16 → s = nI k → t = nI l → (0 ≤ a.toInt ∧ a.toInt ≤ 1) → isSl u → (V k = none ∨ V l = none) → Q (-2) σ) (h1 : ∀ k l x y b w, k < 16 → l < 16 → s = nI k → t = nI l → V k = some x → V l = some y → b < 2 → a = nI b → w < 16 → u = nI w → ∀ τ, mW σ τ → (fits (joinT (3 + b) [x, y]) → Sm τ (uV V w (joinT (3 + b) [x, y])) → Q (nI (joinT (3 + b) [x, y]).length) τ) ∧ (¬ fits (joinT (3 + b) [x, y]) → Sm τ V → Q (-4) τ)) : am_K ri am_Lm IX11_join (d + 44) [.ref 0, .int s, .int t, .int a, .int u] σ Q := by
  refine vX11_join (ms_slot (d := d + 41) (fun k hk e => ⟨fun z => absurd z (by decide), fun _ => ?_⟩) (fun h => ⟨fun _ => hb fun z => h z.1, fun z => absurd rfl z⟩))
  refine ms_slot (d := d + 41) (fun l hl e2 => ⟨fun z => absurd z (by decide), fun _ => ?_⟩) (fun h => ⟨fun _ => hb fun z => h z.2.1, fun z => absurd rfl z⟩)
  refine ms_in (d := d + 42) (a := 0) (b := 1) rfl rfl (by decide) (fun b _ hb2 e3 => ⟨fun z => absurd z (by decide), fun _ => ?_⟩) (fun h => ⟨fun _ => hb fun z => h z.2.2.1, fun z => absurd rfl z⟩)
  refine ms_slot (d := d + 41) (fun w hw e4 => ⟨fun _ => ?_, fun z => absurd z (by decide)⟩) (fun h => ⟨fun z => absurd rfl z, fun _ => hb fun z => h z.2.2.2⟩)
  have ha : 0 ≤ a.toInt ∧ a.toInt ≤ 1 := by rw [e3, nI_toInt (by omega)]; omega
  have hu : isSl u := by rw [e4]; exact nI_sl hw
  refine ⟨by rw [e]; exact vp_in_nI hk (by decide), ?_⟩
  have vl : vp_in t 16 := by rw [e2]; exact vp_in_nI hl (by decide)
  rw [e, nI_clamp (n := k) (by omega)]
  rcases hV k hk with ⟨v1, v2⟩ | ⟨x, v1, v2, hc, hf, hr⟩
  · rw [v2]
    exact ⟨fun _ => hn k l hk hl e e2 ha hu (Or.inl v1), fun z => absurd rfl z⟩
  rw [v2]
  refine ⟨fun z => absurd z (by decide), fun _ => ⟨vl, ?_⟩⟩
  rw [e2, nI_clamp (n := l) (by omega)]
  rcases hV l hl with ⟨w1, w2⟩ | ⟨y, w1, w2, hc2, hf2, hr2⟩
  · rw [w2]
    exact ⟨fun z => absurd rfl z, fun _ => hn k l hk hl e e2 ha hu (Or.inr w1)⟩
  rw [w2]
  refine ⟨fun _ => ?_, fun z => absurd z (by decide)⟩
  have h40 := hf.1
  have h41 := hf2.1
  refine vX11_begin ⟨Or.inl rfl, ?_⟩
  generalize hσ1 : wS (wS (wS σ 0 4 (17280 : Int32)) 0 5 (0 : Int32)) 0 7 (0 : Int32) = σ1
  have g1 : wk 17280 0 σ σ1 := by rw [← hσ1]; exact wk_S (wk_S (wk_S wk_rfl (by simp)) (by simp)) (by simp)
  have t4 : gS σ1 0 4 = nI 17280 := by rw [← hσ1, wS_ne (by omega), wS_ne (by omega), wS_at]; rfl
  have t5 : gS σ1 0 5 = nI 0 := by rw [← hσ1, wS_ne (by omega), wS_at]; rfl
  have t7 : gS σ1 0 7 = nI 0 := by rw [← hσ1, wS_at]; rfl
  rw [m_40, m_40]
  refine m_put (d := d + 42) t7 (by omega) (m_put (d := d + 42) (wS_at _ _ _ _) (by omega) ?_)
  generalize hσ2 : wS (wA (wS (wA σ1 5 0 (nI (40 * k))) 0 7 (nI (0 + 1))) 5 (0 + 1) (nI (40 * l))) 0 7 (nI (0 + 1 + 1)) = σ2
  have g2 : wk 17280 0 σ σ2 := by rw [← hσ2]; exact wk_S (wk_5 (wk_S (wk_5 g1 (by omega)) (by simp)) (by omega)) (by simp)
  have ek : (3 : Int32) + a = nI (3 + b) := by rw [e3]; exact nI_add 3 b
  rw [ek]
  have hk34 : 3 + b = 3 ∨ 3 + b = 4 := by omega
  have hC2 : ∀ z ∈ [x, y], Can z := by
    intro z hz
    simp at hz
    rcases hz with h | h
    · rw [h]; exact hc
    · rw [h]; exact hc2
  have flb : ∀ {z : Tm}, Can z → fits z → (fl1 (3 + b) z).length ≤ 8 := fun {z} hcz hfz => by
    by_cases ez : kd z = 3 + b
    · rw [fl1_eq ez]; exact (fits_pts hcz hfz).1
    · rw [fl1_ne ez]; simp
  have hfl : (flK (3 + b) [x, y]).length ≤ 16 := by
    have e5 : flK (3 + b) [x, y] = fl1 (3 + b) x ++ fl1 (3 + b) y := by simp [flK]
    rw [e5, List.length_append]
    have := flb hc hf
    have := flb hc2 hf2
    omega
  have he : ent σ2 0 0 17280 40 [x, y] := by
    intro i z hz
    have hi := get_lt hz
    simp at hi
    rcases (show i = 0 ∨ i = 1 by omega) with h | h
    · subst h
      simp at hz
      subst hz
      refine ⟨40 * k, ?_, canF_mono h40 (canF_len x hc), wk_seg g2 (by omega) hr, by omega⟩
      rw [← hσ2, gA_wS, wA_ne (by omega), gA_wS]
      exact wA_at _ _ _ _
    · subst h
      simp at hz
      subst hz
      refine ⟨40 * l, ?_, canF_mono h41 (canF_len y hc2), wk_seg g2 (by omega) hr2, by omega⟩
      rw [← hσ2, gA_wS]
      exact wA_at _ _ _ _
  have hcJ := Can_join hk34 hC2 (by simp)
  refine m_joined (d := d) (n := 40) (lo := 0) (f := 0) (T := 17280) (b := 0) hk34 (by simp) he (by simp; omega) (by rw [← hσ2]; exact wS_at _ _ _ _) (by rw [← hσ2, wS_ne (by omega), gS_wA, wS_ne (by omega), gS_wA]; exact t4) (by omega) (by omega) (by rw [← hσ2, wS_ne (by omega), gS_wA, wS_ne (by omega), gS_wA]; exact t5) (by omega) (fun v τ j1 j2 j3 => ?_)
  have g3 : wk 17280 0 σ τ := wk_trans g2 j1
  rw [e4]
  rcases j3 with ⟨_, j4, T', p, j5, j6, j7, j8, rfl, j9, j10⟩ | ⟨j4, j5, j6⟩
  · refine m_store (d := d + 41) (b := 0) hw (Can_wf hcJ) j4 (by omega) (fun _ => ⟨p, rfl, ?_, by omega, j9⟩) (fun _ hff υ hst => ?_) (fun z => ?_)
    · have := j10.2.2
      simp at this
      omega
    · exact (h1 k l x y b w hk hl e e2 v1 w1 (by omega) e3 hw e4 υ (mW_trans (mW_wk g3 (Nat.le_refl _)) (mW_sto hst hw hff.1))).1 hff (Sm_sto (Sm_wk hV g3 (by omega)) hst hcJ hff)
    · exact (h1 k l x y b w hk hl e e2 v1 w1 (by omega) e3 hw e4 τ (mW_wk g3 (Nat.le_refl _))).2 (z rfl) (Sm_wk hV g3 (by omega))
  · have hnf : ¬ fits (joinT (3 + b) [x, y]) := fun z => by
      have := z.1
      omega
    refine m_store (d := d + 41) (b := 1) hw (Can_wf hcJ) j5 (by omega) (fun z => absurd z (by omega)) (fun z => absurd z (by omega)) (fun _ => ?_)
    exact (h1 k l x y b w hk hl e e2 v1 w1 (by omega) e3 hw e4 τ (mW_wk g3 (Nat.le_refl _))).2 hnf (Sm_wk hV g3 (by omega))
end C2
