/-! ===== the reference: putFor, unified ===== -/
section SC
variable {θ θ' : Nat → Tm}
theorem vb_pts {x z : Tm} (hx : Can x) (hz : z ∈ pts x) {a : Nat} (h : (vb z).testBit a = true) : (vb x).testBit a = true := by
  have h1 := (Can_pts hx).1
  have : vb x = (if kd x = 0 then 2 ^ nm x else 0) ||| vb (pts x).flatten := by
    rw [← vb_node, ← h1]
  rw [this, Nat.testBit_or, ← vb_mem_flat hz, Nat.testBit_or, h]
  simp
theorem sub_congr : ∀ x, Can x → (∀ a, (vb x).testBit a = true → θ a = θ' a) → sub θ x = sub θ' x := by
  refine can_ind fun k n L hl hc ih he => ?_
  have hx := Can_mk hl hc
  have hw : ∀ y ∈ L, wf y := fun y hy => Can_wf (hc y hy)
  have hp : pts (node k n L) = L := pts_node hw
  have em : L.map (sub θ) = L.map (sub θ') := map_eq fun y hy => ih y hy fun a ha => he a (vb_pts hx (by rw [hp]; exact hy) ha)
  rw [sub_eq hx, sub_eq hx, hp, em]
  by_cases h0 : kd (node k n L) = 0
  · rw [if_pos h0, if_pos h0]
    refine he _ ?_
    rw [vb_var hx h0, tb_pow]
    simp
  · rw [if_neg h0, if_neg h0]
/-- what is put for a variable of it fits where the whole fits -/
theorem fits_var (hθ : ∀ v, v < 22 → Can (θ v)) : ∀ x, Can x → fits (sub θ x) → ∀ a, (vb x).testBit a = true → fits (θ a) := by
  refine can_ind fun k n L hl hc ih hf a ha => ?_
  have hx := Can_mk hl hc
  have hw : ∀ y ∈ L, wf y := fun y hy => Can_wf (hc y hy)
  by_cases h0 : k = 0
  · rw [sub_eq hx, kd_node, if_pos h0, nm_node] at hf
    have hv := vb_var hx (by rw [kd_node]; exact h0)
    rw [nm_node] at hv
    rw [hv, tb_pow] at ha
    have : n = a := by simpa using ha
    rw [← this]
    exact hf
  · have := fits_sub hl hc hθ h0 hf
    rw [vb_node, if_neg h0, Nat.zero_or] at ha
    have : ∀ (M : List Tm), (vb M.flatten).testBit a = true → ∃ y ∈ M, (vb y).testBit a = true := by
      intro M
      induction M with
      | nil => intro h; simp [vb] at h
      | cons y M ihM =>
        intro h
        rw [List.flatten_cons, vb_app, Nat.testBit_or, Bool.or_eq_true] at h
        rcases h with h | h
        · exact ⟨y, List.mem_cons_self, h⟩
        · obtain ⟨z, z1, z2⟩ := ihM h
          exact ⟨z, List.mem_cons_of_mem _ z1, z2⟩
    obtain ⟨y, y1, y2⟩ := this L ha
    exact ih y y1 (fits_sub hl hc hθ h0 hf y y1) a y2
end SC
def mP (σ τ : am_S) : Prop := (∀ n k, (n, k) ∉ [(0, 4), (0, 5), (0, 7)] → gS τ n k = gS σ n k) ∧ (∀ n, n ∉ [1, 2, 3, 4, 5, 7, 17] → gA τ n = gA σ n) ∧ (∀ n, 1 ≤ n → n ≤ 4 → ∀ i, 640 ≤ i → i < 17280 → gA τ n i = gA σ n i) ∧ τ.2 = σ.2
section PF
variable {σ τ υ : am_S} {U : List (Tm × Int)} {k d : Nat} {V : Sv}
theorem mP_rfl : mP σ σ := ⟨fun _ _ _ => rfl, fun _ _ => rfl, fun _ _ _ _ _ _ => rfl, rfl⟩
theorem mP_trans (h : mP σ τ) (g : mP τ υ) : mP σ υ := ⟨fun n k z => (g.1 n k z).trans (h.1 n k z), fun n z => (g.2.1 n z).trans (h.2.1 n z), fun n a b i z w => (g.2.2.1 n a b i z w).trans (h.2.2.1 n a b i z w), g.2.2.2.trans h.2.2.2⟩
theorem mP_mW (h : mW σ τ) : mP σ τ := ⟨h.1, fun n hn => h.2.1 n (fun z => hn (by simp at z ⊢; omega)), h.2.2.1, h.2.2.2⟩
theorem mP_17 {i : Nat} {v : Int32} (h : mP σ τ) : mP σ (wA τ 17 i v) := by
  refine ⟨h.1, fun n hn => ?_, fun n a b i z w => ?_, h.2.2.2⟩
  · rw [← h.2.1 n hn]; exact wA_arr (fun e => hn (by rw [e]; simp))
  · rw [← h.2.2.1 n a b i z w]; exact wA_ne (by omega)
theorem ent_put {lo a T n p : Nat} {L : List Tm} {y : Tm} {w : Int32} (h : ent σ lo a T n L) (hy : canF n y) (hs : seg σ p y) (hp : p + y.length ≤ T) (hl : lo ≤ p) : ent (wS (wA σ 5 (a + L.length) (nI p)) 0 7 w) lo a T n (L ++ [y]) := by
  intro i z hz
  have hsg : ∀ {q : Nat} {x : Tm}, seg σ q x → seg (wS (wA σ 5 (a + L.length) (nI p)) 0 7 w) q x := fun g => seg_move (fun a h1 h4 i hi => by rw [gA_wS, wA_arr (by omega)]) g
  rw [gA_wS]
  by_cases e : i = L.length
  · subst e
    rw [List.getElem?_append_right (Nat.le_refl _), Nat.sub_self] at hz
    cases hz
    exact ⟨p, wA_at _ _ _ _, hy, hsg hs, hp, hl⟩
  · have hi := get_lt hz
    rw [List.length_append, List.length_singleton] at hi
    rw [List.getElem?_append_left (by omega)] at hz
    obtain ⟨q, q1, q2, q3, q4⟩ := h i z hz
    exact ⟨q, by rw [wA_ne (by omega)]; exact q1, q2, hsg q3, q4⟩
theorem pxs_len {j s : Nat} (hU : okU k U) : ∀ {m : Nat}, m ≤ (uB U).length → (pxs U j s m).length ≤ 16 * m
  | 0, _ => Nat.le_refl _
  | b + 1, h => by
    have ih := pxs_len (j := j) (s := s) hU (m := b) (by omega)
    have h1 := (sols_sm (B_mem (B := uB U) (b := b) (by omega))).1
    have h2 := (uS_bd hU).1
    have h3 := big_sm ((uB U).getD b []) j
    simp only [pxs]
    rw [List.length_append, List.length_replicate]
    have : pcn U j s b ≤ 16 := by
      unfold pcn
      split <;> omega
    omega
theorem pxs_canF (hU : okU k U) (hk : k = 3 ∨ k = 4) {j s m : Nat} (hm : m ≤ 16) : ∀ z ∈ pxs U j s m, canF 40 z := fun z hz => by
  have := pxs_ok hU hk hm z hz
  exact canF_mono this.2.1.1 (canF_len z this.1)
/-- uM but for what making terms changes -/
theorem uM_mP (hU : okU k U) (h : uM k U σ) (g : mP σ τ) : uM k U τ := by
  obtain ⟨a1, a2, a3, a4, a5, a6, a7⟩ := h
  refine ⟨by rw [g.1 0 39 (by decide)]; exact a1, ⟨by rw [g.1 0 40 (by decide)]; exact a2.1, by rw [g.1 0 41 (by decide)]; exact a2.2.1, fun j q hq => ?_⟩, ⟨by rw [g.1 0 36 (by decide)]; exact a3.1, a3.2.1, fun i hi => ?_⟩, fun b hb => by rw [g.2.1 30 (by decide)]; exact a4 b hb, by rw [g.1 0 38 (by decide)]; exact a5, by rw [g.1 0 37 (by decide)]; exact a6, fun i s hs => by rw [g.2.1 26 (by decide)]; exact a7 i s hs⟩
  · obtain ⟨b1, b2, b3⟩ := a2.2.2 j q hq
    rw [g.2.1 22 (by decide), g.2.1 23 (by decide)]
    have hj := get_lt hq
    have hn := hU.1
    have hl := (hU.2.2.1 q (get_mem hq)).2.1.1
    refine ⟨b1, b2, fun z => seg_move (fun a h1 h4 i hi => g.2.2.1 a h1 h4 _ (by omega) (by omega)) (b3 z)⟩
  · rw [g.2.1 24 (by decide), g.2.1 25 (by decide)]
    exact a3.2.2 i hi
theorem pcn_eq (U : List (Tm × Int)) (j s b : Nat) : s / 2 ^ b % 2 * ((uB U).getD b []).getD j 0 = pcn U j s b := by
  unfold pcn
  by_cases h : s.testBit b = true
  · rw [if_pos h, (tb_iff _ _).mpr h, Nat.one_mul]
  · rw [if_neg h]
    have : ¬ s / 2 ^ b % 2 = 1 := fun z => h ((tb_iff _ _).mp z)
    rw [show s / 2 ^ b % 2 = 0 by omega, Nat.zero_mul]
theorem m_putFor {j s f T b : Nat} {Q : Int32 → am_S → Prop} (hk : k = 3 ∨ k = 4) (hU : okU k U) (hu : uM k U σ) (hj : j < vn U) (hs : s ∈ uG U) (h7 : gS σ 0 7 = nI f) (hf : f ≤ 1000) (h4 : gS σ 0 4 = nI T) (hT1 : 17280 ≤ T) (hT : T ≤ 60200) (h5 : gS σ 0 5 = nI b) (hb : b ≤ 1)
    (H : ∀ v τ T', wk T f σ τ → gS τ 0 7 = nI f → gS τ 0 4 = nI T' → T ≤ T' → (T' ≤ 60000 ∨ T' ≤ T + 16) → ((b = 0 ∧ gS τ 0 5 = nI 0 ∧ (∃ p, v = nI p ∧ seg τ p (joinT k (pxs U j s (uB U).length)) ∧ p + (joinT k (pxs U j s (uB U).length)).length ≤ T') ∧ T' ≤ T + 16 + (joinT k (pxs U j s (uB U).length)).length) ∨ (gS τ 0 5 = nI 1 ∧ (b = 1 ∨ 60000 < T + 16 + (joinT k (pxs U j s (uB U).length)).length))) → Q v τ) : am_K ri am_Lm IX11_putFor (d + 44) [.ref 0, .int (nI j), .int (nI s)] σ Q := by
  have hm : (uB U).length ≤ 16 := hu.2.2.1.2.1
  have hn := hU.1
  have hv6 := hU.2.1
  have hvn := vn_le U
  have hs16 : s < 2 ^ 16 := by
    have h1 := ((uG_iff hU).mp hs).1
    have := Nat.pow_le_pow_right (n := 2) (by decide) hm
    omega
  have hne := uG_pxs hU hs hj
  have out : ∀ q c τ T2, c + q = (uB U).length → wk T f σ τ → gS τ 0 7 = nI (f + (pxs U j s c).length) → gS τ 0 4 = nI T2 → T ≤ T2 → T2 ≤ T + c → gS τ 0 5 = nI b → ent τ 640 f T2 40 (pxs U j s c) → am_X ri am_Lm IX11_putFor (d + 44) 8 [some (.ref 0), some (.int (nI j)), some (.int (nI s)), some (.int (nI f)), some (.int (nI c)), none, none, none] [] τ Q := by
    intro q
    induction q with
    | zero =>
      intro c τ T2 hc g1 g2 g3 g4 g5 g6 g7
      obtain rfl : c = (uB U).length := by omega
      have hut := uM_mP hU hu (mP_mW (mW_wk g1 hT1))
      have hlen := pxs_len (j := j) (s := s) hU (Nat.le_refl (uB U).length)
      have hself : flK k (pxs U j s (uB U).length) = pxs U j s (uB U).length := flK_self fun z hz => (pxs_ok hU hk hm z hz).2.2
      refine vX11_putFor_8 (pk_le (uB U).length (uB U).length (fun _ => ?_) (fun h => by omega) hut.2.2.1.1 rfl (by omega) (by omega))
      rw [hut.1]
      refine m_joined (lo := 640) (n := 40) (d := d) hk hne g7 (by rw [hself]; omega) g2 g3 (by omega) (by omega) g6 hb fun v τ2 w1 w2 w3 => ?_
      have w4 : wk T f σ τ2 := wk_trans g1 (wk_mono w1 (by omega) (Nat.le_refl _))
      rcases w3 with ⟨e0, e5, T', p, t1, t2, t3, t4, t5, t6, t7, _⟩ | ⟨e0, e5, t1⟩
      · exact H v τ2 T' w4 w2 t1 (by omega) (by omega) (Or.inl ⟨e0, e5, ⟨p, t5, t6, t7⟩, by omega⟩)
      · exact H v τ2 T2 w4 w2 t1 (by omega) (by omega) (Or.inr ⟨e5, by omega⟩)
    | succ q ih =>
      intro c τ T2 hc g1 g2 g3 g4 g5 g6 g7
      have hut := uM_mP hU hu (mP_mW (mW_wk g1 hT1))
      have hcl : c < (uB U).length := by omega
      obtain ⟨kk, k1, k2, k3⟩ := hut.2.2.1.2.2 c hcl
      have hpt := pTm_ok hU hk (b := c) (by omega)
      have hptl := hpt.2.1.1
      have hlc := pxs_len (j := j) (s := s) hU (m := c) (by omega)
      have hpc : pcn U j s c ≤ 16 := by
        have h1 := (sols_sm (B_mem (B := uB U) (b := c) (by omega))).1
        have h2 := (uS_bd hU).1
        have h3 := big_sm ((uB U).getD c []) j
        unfold pcn
        split <;> omega
      -- copies are put
      have inn : ∀ m i p τ T3, i + m = pcn U j s c → wk T f σ τ → gS τ 0 7 = nI (f + (pxs U j s c ++ List.replicate i (pTm U c)).length) → gS τ 0 4 = nI T3 → T ≤ T3 → T3 ≤ T + c + 1 → gS τ 0 5 = nI b → ent τ 640 f T3 40 (pxs U j s c ++ List.replicate i (pTm U c)) → (0 < m → seg τ p (pTm U c) ∧ p + (pTm U c).length ≤ T3 ∧ 640 ≤ p) → am_X ri am_Lm IX11_putFor (d + 44) 95 [some (.ref 0), some (.int (nI j)), some (.int (nI s)), some (.int (nI f)), some (.int (nI c)), some (.int (nI (pcn U j s c))), some (.int (nI p)), some (.int (nI i))] [] τ Q := by
        intro m
        induction m with
        | zero =>
          intro i p τ T3 hi w1 w2 w3 w4 w5 w6 w7 _
          obtain rfl : i = pcn U j s c := by omega
          refine vX11_putFor_95 (pk_le (pcn U j s c) (pcn U j s c) (fun _ => ?_) (fun h => by omega))
          rw [nI_1]
          exact ih (c + 1) τ T3 (by omega) w1 w2 w3 w4 (by omega) w6 w7
        | succ m ihm =>
          intro i p τ T3 hi w1 w2 w3 w4 w5 w6 w7 w8
          obtain ⟨z1, z2, z3⟩ := w8 (by omega)
          have hl2 : (pxs U j s c ++ List.replicate i (pTm U c)).length = (pxs U j s c).length + i := by simp
          refine vX11_putFor_95 (pk_le (pcn U j s c) i (fun h => by omega) (fun _ => ?_))
          rw [nI_1]
          have nx := ihm (i + 1) p (wS (wA τ 5 (f + (pxs U j s c ++ List.replicate i (pTm U c)).length) (nI p)) 0 7 (nI (f + (pxs U j s c ++ List.replicate i (pTm U c)).length + 1))) T3 (by omega)
          rw [List.replicate_succ', ← List.append_assoc] at nx
          refine m_put (d := d + 42) w2 (by omega) (nx (wk_S (wk_5 w1 (by omega)) (by simp)) ?_ ?_ w4 w5 ?_ ?_ (fun _ => ⟨?_, z2, z3⟩))
          · rw [wS_at]
            congr 1
            simp only [List.length_append, List.length_singleton]
            omega
          · rw [wS_ne (by omega)]; exact w3
          · rw [wS_ne (by omega)]; exact w6
          · exact ent_put w7 (canF_mono hptl (canF_len _ hpt.1)) z1 z2 z3
          · exact seg_move (fun a h1 h4 i hi => by rw [gA_wS, wA_arr (by omega)]) z1
      have start := fun p τ T3 => inn (pcn U j s c) 0 p τ T3 (by omega)
      rw [List.replicate_zero, List.append_nil] at start
      have e1 : (32 : Int32) * gA τ 25 c + nI j = nI (32 * kk + j) := by rw [k2, show (32 : Int32) = nI 32 from rfl, pk_mul, nI_add]
      refine vX11_putFor_8 (pk_le (uB U).length c (fun h => by omega) (fun _ => ?_) hut.2.2.1.1 rfl (by omega) (by omega))
      rw [nI_clamp (n := c) (by omega), e1, nI_clamp (n := 32 * kk + j) (by omega), k3 j (by omega), nx_tb (by omega) (by omega), pk_mul, pcn_eq]
      refine ⟨pk_in c 17 (by omega), pk_in (32 * kk + j) 600 (by omega), fun hnz => ⟨pk_in c 16 (by omega), fun hneg => ?_, fun hnn => ⟨pk_in c 16 (by omega), ?_⟩⟩, fun hz => ?_⟩
      · have e0 : pTm U c = node 0 (6 + c) [] := by
          unfold pTm
          rw [if_neg]
          intro hh
          have h30 := hut.2.2.2.1 c hcl
          rw [rl_pos hh] at h30
          rw [i_lt, h30, l_0] at hneg
          rcases grf_or ((uB U).getD c []) (vn U) (U.length - vn U) with e | e | ⟨g, e, e2, _⟩
          · rw [show grB (uB U) (vn U) U.length c = -2 from e] at hh; omega
          · rw [show grB (uB U) (vn U) U.length c = -1 from e] at hh; omega
          · rw [show grB (uB U) (vn U) U.length c = g from e] at hneg; omega
        rw [show (6 : Int32) = nI 6 from rfl, nI_add]
        refine m_head (d := d + 42) (T := T2) g3 (by omega) ?_
        generalize hω : wS (wA (wA (wA (wA τ 1 T2 (0 : Int32)) 2 T2 (nI (6 + c))) 3 T2 (0 : Int32)) 4 T2 (1 : Int32)) 0 4 (nI (T2 + 1)) = ω
        have w0 : ∀ f', wk T2 f' τ ω := fun f' => by rw [← hω]; exact wk_S (wk_A (wk_A (wk_A (wk_A wk_rfl (by omega) (by omega) (Nat.le_refl _)) (by omega) (by omega) (Nat.le_refl _)) (by omega) (by omega) (Nat.le_refl _)) (by omega) (by omega) (Nat.le_refl _)) (by simp)
        have sS : ∀ j, j ≠ 4 → gS ω 0 j = gS τ 0 j := fun j h1 => by rw [← hω, wS_ne (by omega), gS_wA, gS_wA, gS_wA, gS_wA]
        refine start T2 ω (T2 + 1) (wk_trans g1 (wk_mono (w0 f) g4 (Nat.le_refl _))) (by rw [sS 7 (by omega)]; exact g2) (by rw [← hω, wS_at]) (by omega) (by omega) (by rw [sS 5 (by omega)]; exact g6) (ent_T (ent_wk g7 (w0 (f + (pxs U j s c).length)) (Nat.le_refl _) (Nat.le_refl _)) (by omega)) (fun _ => ⟨?_, by rw [e0, node_len]; simp, by omega⟩)
        rw [e0, seg_node (by simp)]
        refine ⟨?_, ?_, ?_, ?_, trivial⟩
        · rw [← hω, gA_wS, wA_ne (by omega), wA_ne (by omega), wA_ne (by omega), wA_at]
          rfl
        · rw [← hω, gA_wS, wA_ne (by omega), wA_ne (by omega), wA_at]
        · rw [← hω, gA_wS, wA_ne (by omega), wA_at]
          rfl
        · rw [← hω, gA_wS, wA_at]
          rfl
      · have h30 := hut.2.2.2.1 c hcl
        rcases grf_or ((uB U).getD c []) (vn U) (U.length - vn U) with e | e | ⟨g, e, e2, e3⟩
        · rw [show grB (uB U) (vn U) U.length c = -2 from e, rl_neg (by decide)] at h30
          exact absurd (by rw [i_lt, h30]; decide) hnn
        · rw [show grB (uB U) (vn U) U.length c = -1 from e, rl_neg (by decide)] at h30
          exact absurd (by rw [i_lt, h30]; decide) hnn
        · have hg : g < U.length := by omega
          rw [show grB (uB U) (vn U) U.length c = g from e, rl_pos (by omega)] at h30
          have e30 : gA τ 30 c = nI (g - vn U) := nI_ofT (by rw [h30]; omega)
          rw [e30, show (16640 : Int32) = nI 16640 from rfl, show (40 : Int32) = nI 40 from rfl, pk_mul, nI_add]
          have e0 : pTm U c = U[g].1 := by
            unfold pTm
            rw [show grB (uB U) (vn U) U.length c = g from e, if_pos (by omega), Int.toNat_natCast, List.getD_eq_getElem?_getD, List.getElem?_eq_getElem hg]
            rfl
          have hsg := (hut.2.1.2.2 g _ (List.getElem?_eq_getElem hg)).2.2 e2
          refine start (16640 + 40 * (g - vn U)) τ T2 g1 g2 g3 g4 (by omega) g6 g7 (fun _ => ⟨by rw [e0]; exact hsg, by omega, by omega⟩)
      · have hz0 : pcn U j s c = 0 := (nx_z (by omega)).mp hz
        exact start 0 τ T2 g1 g2 g3 g4 (by omega) g6 g7 (fun h => by omega)
  refine vX11_putFor ?_
  rw [h7]
  exact out (uB U).length 0 σ T (by omega) wk_rfl (by simpa [pxs] using h7) h4 (Nat.le_refl _) (Nat.le_refl _) h5 (fun i y hy => by simp [pxs] at hy)
end PF
