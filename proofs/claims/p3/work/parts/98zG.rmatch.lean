/-! ===== the reference's match, matched, instance: they come to their ends ===== -/
def Mg (ns : List Nat) (c : Nat) (σ : am_S) : Prop := ∀ r k, r < c → k < ns.length → ∃ y, Can y ∧ fits y ∧ seg σ (640 + 40 * (4 * r + k)) y
def MRf (σ : am_S) : Prop := ∃ ns c, mN ns σ ∧ gS σ 0 16 = nI c ∧ c ≤ 50 ∧ (∀ i, i < c → ∃ r, r < c ∧ gA σ 11 i = nI r) ∧ Mg ns c σ
/-- what match() may change -/
def mMt (σ τ : am_S) : Prop := (∀ n k, (n, k) ∉ [(0, 4), (0, 5), (0, 7), (0, 16), (0, 17), (0, 26), (0, 27)] → gS τ n k = gS σ n k) ∧ (∀ n, 5 ≤ n → n ∉ [5, 9, 10, 11, 12, 13, 14, 15, 16] → gA τ n = gA σ n) ∧ (∀ n, n < 5 → ∀ i, (i < 640 ∨ (16640 ≤ i ∧ i < 17280)) → gA τ n i = gA σ n i) ∧ τ.2 = σ.2
section RM
variable {σ τ υ : am_S} {V : Sv}
theorem mMt_rfl : mMt σ σ := ⟨fun _ _ _ => rfl, fun _ _ _ => rfl, fun _ _ _ _ => rfl, rfl⟩
theorem mMt_trans (h : mMt σ τ) (g : mMt τ υ) : mMt σ υ := ⟨fun n k z => (g.1 n k z).trans (h.1 n k z), fun n a z => (g.2.1 n a z).trans (h.2.1 n a z), fun n a i z => (g.2.2.1 n a i z).trans (h.2.2.1 n a i z), g.2.2.2.trans h.2.2.2⟩
theorem mMt_kW {G : Nat} (h : kW 17280 G σ τ) : mMt σ τ := ⟨fun n k z => h.1 n k (fun w => z (by simp at w ⊢; omega)), fun n a z => h.2.1 n a (fun w => z (by simp at w ⊢; omega)), fun n a i hi => h.2.2.2.2.1 n a i hi, h.2.2.2.2.2⟩
theorem mMt_S {k : Nat} {v : Int32} (h : mMt σ τ) (hk : (0, k) ∈ [((0 : Nat), (4 : Nat)), (0, 5), (0, 7), (0, 16), (0, 17), (0, 26), (0, 27)]) : mMt σ (wS τ 0 k v) := ⟨fun n j z => by
    rw [wS_ne (fun e => z (by rw [e.1, e.2]; exact hk))]
    exact h.1 n j z, h.2.1, h.2.2.1, h.2.2.2⟩
theorem mMt_A {a i : Nat} {v : Int32} (h : mMt σ τ) (h5 : 5 ≤ a) (hk : a ∈ [5, 9, 10, 11, 12, 13, 14, 15, 16]) : mMt σ (wA τ a i v) := ⟨h.1, fun n b z => by
    rw [← h.2.1 n b z]
    funext j
    exact wA_ne (fun e => z (by rw [e.1]; exact hk)), fun n b j hj => by
    rw [wA_ne (by omega)]
    exact h.2.2.1 n b j hj, h.2.2.2⟩
theorem Sm_mMt (h : Sm σ V) (g : mMt σ τ) : Sm τ V := by
  intro s hs
  rcases h s hs with ⟨a, b⟩ | ⟨x, a, b, c, d, e⟩
  · exact Or.inl ⟨a, by rw [g.2.1 7 (by omega) (by decide)]; exact b⟩
  · exact Or.inr ⟨x, a, by rw [g.2.1 7 (by omega) (by decide)]; exact b, c, d, seg_move (fun q h1 h4 i hi => g.2.2.1 q (by omega) _ (Or.inl (by have := d.1; omega))) e⟩
def nj (b j : Nat) : List Nat := (List.range j).filter (fun a => b.testBit a)
theorem pop_le (n : Nat) : ∀ k, pop k n ≤ k
  | 0 => Nat.le_refl _
  | k + 1 => by
    have := pop_le n k
    show pop k n + n / 2 ^ k % 2 ≤ k + 1
    omega
theorem tb_lt {b a : Nat} (hb : b < 2 ^ 22) (h : b.testBit a = true) : a < 22 := by
  rcases Nat.lt_or_ge a 22 with z | z
  · exact z
  · rw [Nat.testBit_lt_two_pow (Nat.lt_of_lt_of_le hb (Nat.pow_le_pow_right (by decide) z))] at h
    cases h
theorem nj_succ (b j : Nat) : nj b (j + 1) = nj b j ++ (if b.testBit j then [j] else []) := by
  unfold nj
  rw [List.range_succ, List.filter_append]
  congr 1
  by_cases h : b.testBit j = true
  · simp [h]
  · simp [h]
theorem nj_pop (b : Nat) : ∀ j, (nj b j).length = pop j b
  | 0 => rfl
  | j + 1 => by
    rw [nj_succ, List.length_append, nj_pop b j]
    show _ = pop j b + b / 2 ^ j % 2
    by_cases h : b.testBit j = true
    · rw [if_pos h, (tb_iff b j).mpr h]
      rfl
    · rw [if_neg h]
      have : ¬ b / 2 ^ j % 2 = 1 := fun z => h ((tb_iff b j).mp z)
      show _ + 0 = _
      omega
theorem nj_mono (b : Nat) {i j : Nat} (h : i ≤ j) : (nj b i).length ≤ (nj b j).length := by
  induction j with
  | zero =>
    have : i = 0 := by omega
    rw [this]
    exact Nat.le_refl _
  | succ j ih =>
    by_cases e : i = j + 1
    · rw [e]
      exact Nat.le_refl _
    · have := ih (by omega)
      rw [nj_succ, List.length_append]
      omega
theorem hd_ok {x : Tm} (hc : Can x) : ∀ h ∈ x, h.1 ≤ 4 ∧ h.2.1 < 22 := by
  revert x
  have main : ∀ x, Can x → ∀ h ∈ x, h.1 ≤ 4 ∧ h.2.1 < 22 := by
    refine can_ind fun k a L hl hc ih h hh => ?_
    rcases List.mem_cons.mp hh with rfl | hh
    · exact loc_bd hl
    · obtain ⟨y, hy, hy2⟩ := List.mem_flatten.mp hh
      exact ih y hy h hy2
  exact fun {x} hc => main x hc
theorem m_ordM {ns : List Nat} {c a b d : Nat} {Q : Int32 → am_S → Prop} (hN : mN ns σ) (hg : Mg ns c σ) (ha : a < c) (hb : b < c) (hc : c ≤ 50) (H : ∀ v, Q v σ) : am_K ri am_Lm IX11_orderMatchers (d + 42) [.ref 0, .int (nI a), .int (nI b)] σ Q := by
  have h4 := hN.2.1
  have loop : ∀ (e j : Nat) (w : Int32), j + e = ns.length → am_X ri am_Lm IX11_orderMatchers (d + 41 + 1) 5 [some (.ref 0), some (.int (nI a)), some (.int (nI b)), some (.int w), some (.int (nI j))] [] σ Q := by
    intro e
    induction e with
    | zero =>
      intro j w hj
      refine vX11_orderMatchers_5 ?_
      rw [hN.1]
      exact ⟨fun _ => H _, fun z => absurd (nI_le (by omega) (by omega)) z⟩
    | succ e ih =>
      intro j w hj
      refine vX11_orderMatchers_5 ?_
      rw [hN.1]
      refine ⟨fun _ => H _, fun _ => ⟨fun _ => H _, fun _ => m_matcherAt (d := d + 40) (m_matcherAt (d := d + 40) ?_)⟩⟩
      obtain ⟨x, hx, hfx, sx⟩ := hg a j ha (by omega)
      obtain ⟨y, hy, hfy, sy⟩ := hg b j hb (by omega)
      have hn40 : canF 41 x := canF_mono (by have := hfx.1; omega) (canF_len x hx)
      have hlx := hfx.1
      have hly := hfy.1
      rw [nI_1]
      exact m_ordered 41 x y σ _ _ d _ hn40 hy sx sy (by omega) (by omega) (fun _ v _ => ih (j + 1) v (by omega)) (fun _ => ih (j + 1) 0 (by omega)) (fun _ v _ => ih (j + 1) v (by omega))
  exact vX11_orderMatchers (loop ns.length 0 0 (by omega))
/-- the names, then the search -/
theorem m_match {a b : Int32} {d : Nat} {Q : Int32 → am_S → Prop} (hV : Sm σ V) (hG : MRf σ) (H : ∀ r τ, mMt σ τ → Sm τ V → MRf τ → Q r τ) : am_K ri am_Lm IX11_match (d + 407) [.ref 0, .int a, .int b] σ Q := by
  have no : ∀ r, Q r σ := fun r => H r σ mMt_rfl hV hG
  refine vX11_match (ms_slot (d := d + 404) (fun k hk ea => ⟨fun z => absurd z (by decide), fun _ => ms_slot (d := d + 404) (fun l hl eb => ⟨fun _ => ⟨by rw [ea]; exact vp_in_nI hk (by decide), ?_⟩, fun z => absurd z (by decide)⟩) (fun _ => ⟨fun z => absurd rfl z, fun _ => no _⟩)⟩) (fun _ => ⟨fun _ => no _, fun z => absurd rfl z⟩))
  have vl : vp_in b 16 := by rw [eb]; exact vp_in_nI hl (by decide)
  rw [ea, eb, nI_clamp (n := k) (by omega), nI_clamp (n := l) (by omega), m_40, m_40, ← eb]
  refine ⟨fun _ => no _, fun hk1 => ⟨vl, fun hl1 => ?_, fun _ => no _⟩⟩
  obtain ⟨x, hxc, hxf, hxs⟩ : ∃ x, Can x ∧ fits x ∧ seg σ (40 * k) x := by
    rcases hV k hk with ⟨-, z⟩ | ⟨x, -, -, c1, c2, c3⟩
    · exact absurd z hk1
    · exact ⟨x, c1, c2, c3⟩
  obtain ⟨y, hyc, hyf, hys⟩ : ∃ y, Can y ∧ fits y ∧ seg σ (40 * l) y := by
    rcases hV l hl with ⟨-, z⟩ | ⟨x, -, -, c1, c2, c3⟩
    · exact absurd z hl1
    · exact ⟨x, c1, c2, c3⟩
  have hx40 := hxf.1
  have hy40 := hyf.1
  have hvx : vb x < 2 ^ 22 := vb_lt x hxc
  have hvy : vb y < 2 ^ 22 := vb_lt y hyc
  refine m_variablesIn (d := d + 405) (Can_wf hxc) (hd_ok hxc) hxs (by omega) (m_bitsOf (d := d + 405) hvx ⟨fun _ => no _, fun h4 => m_variablesIn (d := d + 405) (Can_wf hyc) (hd_ok hyc) hys (by omega) ⟨fun hv0 => vX11_begin ⟨Or.inl rfl, ?_⟩, fun _ => no _⟩⟩)
  have hy0 : vb y = 0 := (nI_eq (b := 0) (by omega) (by decide)).mp hv0
  have hpop : pop 22 (vb x) ≤ 4 := by
    rcases Nat.lt_or_ge 4 (pop 22 (vb x)) with z | z
    · exact absurd (nI_lt (a := 4) z (by have := pop_le (vb x) 22; omega)) h4
    · exact z
  have hnl : (nj (vb x) 22).length ≤ 4 := by rw [nj_pop]; exact hpop
  -- the names
  have names : ∀ (e j : Nat) (τ : am_S), j + e = 22 → mMt σ τ → gS τ 0 4 = nI 17280 → gS τ 0 5 = nI 0 → gS τ 0 7 = nI 0 → gS τ 0 17 = nI (nj (vb x) j).length → (∀ i w, (nj (vb x) j)[i]? = some w → gA τ 9 i = nI w ∧ gA τ 10 i = -1) → am_X ri am_Lm IX11_match (d + 406 + 1) 80 [some (.ref 0), some (.int (nI k)), some (.int (nI l)), some (.int (nI (vb x))), some (.int (nI j)), none] [] τ Q := by
    intro e
    induction e with
    | zero =>
      intro j τ hj g s4 s5 s7 s17 hnm
      have hj22 : j = 22 := by omega
      subst hj22
      refine vX11_match_80 ⟨fun _ => ⟨Or.inl rfl, ?_⟩, fun z => absurd (by decide) z⟩
      rw [m_40, m_40]
      generalize hτ0 : wS (wS (wS τ 0 16 0) 0 27 0) 0 26 0 = τ0
      have g0 : mMt σ τ0 := by
        rw [← hτ0]
        exact mMt_S (mMt_S (mMt_S g (by decide)) (by decide)) (by decide)
      have hA : gA τ0 = gA τ := by rw [← hτ0]; rfl
      have t16 : gS τ0 0 16 = 0 := by rw [← hτ0, wS_ne (by omega), wS_ne (by omega), wS_at]
      have t27 : gS τ0 0 27 = 0 := by rw [← hτ0, wS_ne (by omega), wS_at]
      have t26 : gS τ0 0 26 = 0 := by rw [← hτ0, wS_at]
      have tk : ∀ q, q ≠ 16 → q ≠ 27 → q ≠ 26 → gS τ0 0 q = gS τ 0 q := fun q a b c => by rw [← hτ0, wS_ne (by omega), wS_ne (by omega), wS_ne (by omega)]
      have hmN : mN (nms (vb x)) τ0 := ⟨by rw [tk 17 (by omega) (by omega) (by omega)]; exact s17, hnl, fun w hw => (nms_mem.mp hw).1, fun i w hw => by rw [hA]; exact (hnm i w hw).1⟩
      have henv : env (nms (vb x)) (fun _ => none) 17280 0 τ0 := by
        refine ⟨hmN, nms_nd _, fun i hi => Or.inl ⟨rfl, ?_⟩, fun _ _ => rfl, by rw [tk 4 (by omega) (by omega) (by omega)]; exact s4, by rw [tk 5 (by omega) (by omega) (by omega)]; exact s5, by rw [tk 7 (by omega) (by omega) (by omega)]; exact s7, t26, by omega, ?_⟩
        · rw [hA]
          exact (hnm i _ (List.getElem?_eq_getElem hi)).2
        · have hu : unb (nms (vb x)).length (fun _ => (none : Option Tm)) ≤ 4 := by
            refine Nat.le_trans (List.length_filter_le _ _) ?_
            rw [List.length_range]
            exact hnl
          omega
      have hSm0 := Sm_mMt hV g0
      have hsx : seg τ0 (40 * k) x := seg_move (fun q h1 h4 i hi => g0.2.2.1 q (by omega) _ (Or.inl (by omega))) hxs
      have hsy : seg τ0 (40 * l) y := seg_move (fun q h1 h4 i hi => g0.2.2.1 q (by omega) _ (Or.inl (by omega))) hys
      have hf0 : fndM x y [] τ0 := ⟨t16, by decide, List.nodup_nil, fun M z => (by cases z), fun i M z => (by simp at z)⟩
      have key := m_solveOne (P := x) (t := y) (σ := τ0) (T := 17280) (G := 0) (Gs := []) (β := fun _ => none) (F := some []) (n := 120) (p := 40 * k) (s := 40 * l) (x := x) (y := y) (g := -1) (d := d) (Q := fun _ σ1 => ((gS σ1 0 27) = 0 → am_X ri am_Lm IX11_match (d + 406 + 1) 180 [some (.ref 0), some (.int (nI k)), some (.int (nI l)), some (.int (nI (vb x))), some (.int (0 : Int32)), none] [] σ1 Q) ∧ (¬ (gS σ1 0 27) = 0 → Q (-4 : Int32) (wS σ1 0 16 (0 : Int32)))) (m_work hxc 120) ⟨hxc, hxf, hsx, by omega, fun a ha => nms_mem.mpr ⟨tb_lt hvx ha, ha⟩⟩ ⟨hyc, hyf, hy0, hsy, by omega⟩ (by simp [mus]; omega) henv rfl (fun M hM => ⟨hM.1, hM.2.1, hM.2.2.2 _ List.mem_cons_self⟩) ⟨t27, hf0⟩ (by simp [mus]; omega) (fun τ1 g1 hres => ?_)
      · exact key
      · have gT : mMt σ τ1 := mMt_trans g0 (mMt_kW g1)
        have hN1 : mN (nms (vb x)) τ1 := ⟨(g1.1 0 17 (by decide)).trans hmN.1, hmN.2.1, hmN.2.2.1, fun i w hw => by rw [g1.2.1 9 (by omega) (by decide)]; exact hmN.2.2.2 i w hw⟩
        refine ⟨fun h27 => ?_, fun _ => ?_⟩
        · rcases hres with ⟨z, -⟩ | ⟨F, F', -, ⟨-, f1, f2, f3, f4, f5⟩, -⟩
          · rw [z] at h27
            exact absurd h27 (by decide)
          have hMg : Mg (nms (vb x)) F'.length τ1 := fun r q hr hq => by
            have hM := List.getElem?_eq_getElem hr
            obtain ⟨m1, m2⟩ := f4 _ (List.getElem_mem hr)
            have hql : q < F'[r].length := by rw [m1.1]; exact hq
            exact ⟨F'[r][q], (m1.2.1 _ (List.getElem_mem hql)).1, m2 _ (List.getElem_mem hql), f5 r _ hM q _ (List.getElem?_eq_getElem hql)⟩
          -- the order
          have fin : ∀ (e i : Nat) (υ : am_S), i + e = F'.length → mMt σ υ → mN (nms (vb x)) υ → gS υ 0 16 = nI F'.length → Mg (nms (vb x)) F'.length υ → (∀ q, q < i → ∃ r, r < F'.length ∧ gA υ 11 q = nI r) → am_X ri am_Lm IX11_match (d + 406 + 1) 180 [some (.ref 0), some (.int (nI k)), some (.int (nI l)), some (.int (nI (vb x))), some (.int (nI i)), none] [] υ Q := by
            intro e
            induction e with
            | zero =>
              intro i υ hi gu hNu h16 hMu hrk
              refine vX11_match_180 ?_
              rw [h16]
              exact ⟨fun _ => H _ υ gu (Sm_mMt hV gu) ⟨_, F'.length, hNu, h16, f2, fun q hq => hrk q (by omega), hMu⟩, fun z => absurd (nI_le (by omega) (by omega)) z⟩
            | succ e ihe =>
              intro i υ hi gu hNu h16 hMu hrk
              refine vX11_match_180 ?_
              rw [h16]
              refine ⟨fun z => absurd z (nI_ge (by omega) (by omega)), fun _ => ?_⟩
              -- the place of one
              have pl : ∀ (j : Nat) (ω : am_S), j ≤ i → mMt σ ω → mN (nms (vb x)) ω → gS ω 0 16 = nI F'.length → Mg (nms (vb x)) F'.length ω → (∀ q, q < i + 1 → q ≠ j → ∃ r, r < F'.length ∧ gA ω 11 q = nI r) → am_X ri am_Lm IX11_match (d + 406 + 1) 193 [some (.ref 0), some (.int (nI k)), some (.int (nI l)), some (.int (nI (vb x))), some (.int (nI i)), some (.int (nI j))] [] ω Q := by
                intro j
                induction j with
                | zero =>
                  intro ω hj gw' hNw h16w hMw hrw
                  refine vX11_match_193 ⟨fun _ => ⟨vp_in_nI (by omega) (by omega), ?_⟩, fun z => absurd (by decide : nI 0 ≤ 0) z⟩
                  rw [nI_clamp (n := 0) (by omega), nI_1]
                  refine ihe (i + 1) _ (by omega) (mMt_A gw' (by omega) (by decide)) ⟨hNw.1, hNw.2.1, hNw.2.2.1, fun a' w' h' => by rw [wA_ne (by omega)]; exact hNw.2.2.2 a' w' h'⟩ h16w (fun r q hr hq => by
                    obtain ⟨z, z1, z2, z3⟩ := hMw r q hr hq
                    exact ⟨z, z1, z2, seg_move (fun b' _ h4' i' _ => wA_ne (by omega)) z3⟩) (fun q hq => ?_)
                  by_cases eq : q = 0
                  · exact ⟨i, by omega, by rw [eq, wA_at]⟩
                  · obtain ⟨r, r1, r2⟩ := hrw q (by omega) eq
                    exact ⟨r, r1, by rw [wA_ne (by omega)]; exact r2⟩
                | succ j ihj =>
                  intro ω hj gw' hNw h16w hMw hrw
                  obtain ⟨rj, rj1, rj2⟩ := hrw j (by omega) (by omega)
                  have keepN : ∀ (pos : Nat) (v : Int32), mN (nms (vb x)) (wA ω 11 pos v) := fun pos v => ⟨hNw.1, hNw.2.1, hNw.2.2.1, fun a' w' h' => by rw [wA_ne (by omega)]; exact hNw.2.2.2 a' w' h'⟩
                  have keepM : ∀ (pos : Nat) (v : Int32), Mg (nms (vb x)) F'.length (wA ω 11 pos v) := fun pos v r q hr hq => by
                    obtain ⟨z, z1, z2, z3⟩ := hMw r q hr hq
                    exact ⟨z, z1, z2, seg_move (fun b' _ h4' i' _ => wA_ne (by omega)) z3⟩
                  refine vX11_match_193 ⟨fun z => absurd z (nI_nle (by omega) (by omega)), fun _ => ?_⟩
                  rw [nI_pred, nI_clamp (n := j) (by omega), rj2, nI_clamp (n := j + 1) (by omega)]
                  refine ⟨vp_in_nI (by omega) (by omega), m_ordM (d := d + 364) hNw hMw rj1 (by omega) f2 fun v => ⟨fun _ => ⟨vp_in_nI (by omega) (by omega), ?_⟩, fun _ => ⟨vp_in_nI (by omega) (by omega), vp_in_nI (by omega) (by omega), ?_⟩⟩⟩
                  · rw [nI_1]
                    refine ihe (i + 1) _ (by omega) (mMt_A gw' (by omega) (by decide)) (keepN _ _) h16w (keepM _ _) (fun q hq => ?_)
                    by_cases eq : q = j + 1
                    · exact ⟨i, by omega, by rw [eq, wA_at]⟩
                    · obtain ⟨r, r1, r2⟩ := hrw q (by omega) eq
                      exact ⟨r, r1, by rw [wA_ne (by omega)]; exact r2⟩
                  · rw [i_m1, nI_pred, rj2]
                    refine ihj _ (by omega) (mMt_A gw' (by omega) (by decide)) (keepN _ _) h16w (keepM _ _) (fun q hq hne => ?_)
                    by_cases eq : q = j + 1
                    · exact ⟨rj, rj1, by rw [eq, wA_at]⟩
                    · obtain ⟨r, r1, r2⟩ := hrw q hq eq
                      exact ⟨r, r1, by rw [wA_ne (by omega)]; exact r2⟩
              exact pl i υ (Nat.le_refl _) gu hNu h16 hMu (fun q hq hne => hrk q (by omega))
          exact fin F'.length 0 τ1 (by omega) gT hN1 f1 hMg (fun q hq => by omega)
        · have g2 : mMt σ (wS τ1 0 16 0) := mMt_S gT (by decide)
          refine H _ _ g2 (Sm_mMt hV g2) ⟨nms (vb x), 0, ⟨by rw [wS_ne (by omega)]; exact hN1.1, hN1.2.1, hN1.2.2.1, hN1.2.2.2⟩, wS_at _ _ _ _, by decide, fun i hi => by omega, fun r q hr => by omega⟩
    | succ e ih =>
      intro j τ hj g s4 s5 s7 s17 hnm
      refine vX11_match_80 ⟨fun z => absurd z (nI_ge (a := j) (b := 22) (by omega) (by omega)), fun _ => ⟨fun hb => ?_, fun hb => ?_⟩⟩
      · have hbf : (vb x).testBit j = false := by
          cases h : (vb x).testBit j with
          | false => rfl
          | true => exact absurd ((m_bit (by omega) (by omega)).mpr h) hb
        have en : nj (vb x) (j + 1) = nj (vb x) j := by rw [nj_succ, if_neg (by rw [hbf]; decide), List.append_nil]
        rw [nI_1]
        exact ih (j + 1) τ (by omega) g s4 s5 s7 (by rw [en]; exact s17) (by rw [en]; exact hnm)
      · have hbt : (vb x).testBit j = true := (m_bit (by omega) (by omega)).mp hb
        have en : nj (vb x) (j + 1) = nj (vb x) j ++ [j] := by rw [nj_succ, if_pos hbt]
        have hl1 : (nj (vb x) j).length + 1 ≤ 4 := by
          have := nj_mono (vb x) (i := j + 1) (j := 22) (by omega)
          rw [en, List.length_append] at this
          have h1 : ([j] : List Nat).length = 1 := rfl
          omega
        rw [s17, nI_clamp (by omega), nI_1, nI_1]
        refine ⟨vp_in_nI (by omega) (by omega), vp_in_nI (by omega) (by omega), ih (j + 1) _ (by omega) (mMt_S (mMt_A (mMt_A g (by omega) (by decide)) (by omega) (by decide)) (by decide)) (by rw [wS_ne (by omega)]; exact s4) (by rw [wS_ne (by omega)]; exact s5) (by rw [wS_ne (by omega)]; exact s7) (by rw [wS_at, en, List.length_append]; rfl) (fun i w hw => ?_)⟩
        rw [en] at hw
        show gA (wA (wA τ 9 (nj (vb x) j).length (nI j)) 10 (nj (vb x) j).length (-1)) 9 i = _ ∧ gA (wA (wA τ 9 (nj (vb x) j).length (nI j)) 10 (nj (vb x) j).length (-1)) 10 i = _
        by_cases ei : i = (nj (vb x) j).length
        · subst ei
          rw [List.getElem?_append_right (Nat.le_refl _), Nat.sub_self] at hw
          have ew : j = w := Option.some.inj hw
          rw [wA_ne (by omega), wA_at, wA_at, ew]
          exact ⟨rfl, rfl⟩
        · have hil : i < (nj (vb x) j).length := by
            have := (List.getElem?_eq_some_iff.mp hw).1
            rw [List.length_append] at this
            have h1 : ([j] : List Nat).length = 1 := rfl
            omega
          rw [List.getElem?_append_left hil] at hw
          rw [wA_ne (by omega), wA_ne (by omega), wA_ne (by omega), wA_ne (by omega)]
          exact hnm i w hw
  rw [eb]
  refine names 22 0 (wS (wS (wS (wS σ 0 4 17280) 0 5 0) 0 7 0) 0 17 0) (by omega) ?_ ?_ ?_ ?_ (by rw [wS_at]; rfl) (fun i w hw => by simp [nj] at hw)
  · exact mMt_S (mMt_S (mMt_S (mMt_S mMt_rfl (by decide)) (by decide)) (by decide)) (by decide)
  · rw [wS_ne (by omega), wS_ne (by omega), wS_ne (by omega), wS_at]; rfl
  · rw [wS_ne (by omega), wS_ne (by omega), wS_at]; rfl
  · rw [wS_ne (by omega), wS_at]; rfl
end RM
section RM2
variable {σ τ υ : am_S} {V : Sv}
/-- what keeps the MATCHERS -/
def kR (σ τ : am_S) : Prop := gS τ 0 16 = gS σ 0 16 ∧ gS τ 0 17 = gS σ 0 17 ∧ gA τ 9 = gA σ 9 ∧ gA τ 11 = gA σ 11 ∧ ∀ n, 1 ≤ n → n ≤ 4 → ∀ i, 640 ≤ i → i < 16640 → gA τ n i = gA σ n i
theorem MR_kR (h : MRf σ) (g : kR σ τ) : MRf τ := by
  obtain ⟨ns, c, h1, h2, h3, h4, h5⟩ := h
  refine ⟨ns, c, ⟨g.2.1.trans h1.1, h1.2.1, h1.2.2.1, fun i a ha => by rw [g.2.2.1]; exact h1.2.2.2 i a ha⟩, g.1.trans h2, h3, fun i hi => by rw [g.2.2.2.1]; exact h4 i hi, fun r k hr hk => ?_⟩
  obtain ⟨y, y1, y2, y3⟩ := h5 r k hr hk
  have hn := h1.2.1
  have hy := y2.1
  exact ⟨y, y1, y2, seg_move (fun q q1 q4 i hi => g.2.2.2.2 q (by omega) (by omega) _ (by omega) (by omega)) y3⟩
theorem kR_mW (g : mW σ τ) : kR σ τ := ⟨g.1 0 16 (by decide), g.1 0 17 (by decide), g.2.1 9 (by decide), g.2.1 11 (by decide), fun n a b i z w => g.2.2.1 n a b i z (by omega)⟩
theorem m_has {i : Int32} {c d : Nat} {Q : Int32 → am_S → Prop} (h : gS σ 0 16 = nI c) (hc : c ≤ 50) (H0 : Q 0 σ) (H1 : ∀ j, i = nI j → j < c → Q 1 σ) : am_K ri am_Lm IX11_in (d + 1) [.long i.toInt64, .long 0, .long ((gS σ 0 16 - 1).toInt64)] σ Q := by
  have key := m_inI (σ := σ) (d := d) (n := i) (lo := 0) (hi := (gS σ 0 16 - 1).toInt64) (a := 0) (b := (c : Int) - 1) rfl (i_s64 h (by omega))
  by_cases hi : 0 ≤ i.toInt ∧ i.toInt ≤ (c : Int) - 1
  · obtain ⟨j, -, hj, e⟩ := i_2 (n := i) (lo := 0) (hi := 49) (by decide) ⟨hi.1, by omega⟩
    have hjc : j < c := by
      rw [e, nI_toInt (by omega)] at hi
      omega
    rw [b01_t hi] at key
    exact ⟨_, _, key, H1 j e hjc⟩
  · rw [b01_f hi] at key
    exact ⟨_, _, key, H0⟩
theorem ixN_lt {ns : List Nat} {a : Nat} (h : a ∈ ns) : ixN a ns < ns.length := (List.getElem?_eq_some_iff.mp (ixN_get h)).1
theorem m_matched {i v u : Int32} {d : Nat} {Q : Int32 → am_S → Prop} (hV : Sm σ V) (hG : MRf σ) (H : ∀ r τ V', mW σ τ → Sm τ V' → Q r τ) : am_K ri am_Lm IX11_matched (d + 4) [.ref 0, .int i, .int v, .int u] σ Q := by
  have no : ∀ r, Q r σ := fun r => H r σ V mW_rfl hV
  obtain ⟨ns, c, hN, hc, hc50, hrk, hMg⟩ := hG
  refine vX11_matched (m_has (d := d + 2) hc hc50 ⟨fun _ => no _, fun z => absurd rfl z⟩ fun j ej hj => ⟨fun z => absurd z (by decide), fun _ => ms_in (d := d + 2) (a := 0) (b := 21) rfl rfl (by decide) (fun w _ hw ew => ⟨fun z => absurd z (by decide), fun _ => ms_slot (d := d + 1) (fun s hs es => ⟨fun _ => ?_, fun z => absurd z (by decide)⟩) (fun _ => ⟨fun z => absurd rfl z, fun _ => no _⟩)⟩) (fun _ => ⟨fun _ => no _, fun z => absurd rfl z⟩)⟩)
  rw [ew, ej, nI_clamp (n := j) (by omega)]
  refine m_nameOf (d := d + 2) hN (by omega) (fun hm => ⟨fun _ => ⟨vp_in_nI (by omega) (by omega), ?_⟩, fun z => absurd (nI_pos' (by have := ixN_lt hm; have := hN.2.1; omega)) z⟩) (fun _ => ⟨fun z => absurd z (by decide), fun _ => no _⟩)
  have hk := ixN_lt hm
  have h4 := hN.2.1
  obtain ⟨r, r1, r2⟩ := hrk j hj
  obtain ⟨y, y1, y2, y3⟩ := hMg r (ixN w ns) r1 hk
  have hy40 := y2.1
  rw [r2, es]
  refine m_matcherAt (d := d + 2) ?_
  by_cases h5 : gS σ 0 5 = 0
  · exact m_store (d := d + 1) (b := 0) hs (Can_wf y1) h5 (by decide) (fun _ => ⟨_, rfl, by omega, by omega, y3⟩) (fun _ hf τ hst => H _ τ _ (mW_sto hst hs hy40) (Sm_sto hV hst y1 hf)) (fun _ => no _)
  · exact vX11_store (vX11_fits ⟨fun _ => vX11_fits_26 ⟨fun _ => ⟨Or.inl rfl, ⟨fun z => absurd rfl z, fun _ => no _⟩⟩, fun z => absurd rfl z⟩, fun z => absurd z h5⟩)
/-- what instance() may change -/
def mI (σ τ : am_S) : Prop := (∀ n k, (n, k) ∉ [(0, 4), (0, 5), (0, 7)] → gS τ n k = gS σ n k) ∧ (∀ n, n ∉ [1, 2, 3, 4, 5, 7, 17] → gA τ n = gA σ n) ∧ (∀ n, 1 ≤ n → n ≤ 4 → ∀ i, 640 ≤ i → i < 17280 → gA τ n i = gA σ n i) ∧ τ.2 = σ.2
theorem mI_rfl : mI σ σ := ⟨fun _ _ _ => rfl, fun _ _ => rfl, fun _ _ _ _ _ _ => rfl, rfl⟩
theorem mI_trans (h : mI σ τ) (g : mI τ υ) : mI σ υ := ⟨fun n k z => (g.1 n k z).trans (h.1 n k z), fun n z => (g.2.1 n z).trans (h.2.1 n z), fun n a b i z w => (g.2.2.1 n a b i z w).trans (h.2.2.1 n a b i z w), g.2.2.2.trans h.2.2.2⟩
theorem mI_mW (h : mW σ τ) : mI σ τ := ⟨h.1, fun n z => h.2.1 n (fun w => z (by simp at w ⊢; omega)), h.2.2.1, h.2.2.2⟩
theorem kR_mI (g : mI σ τ) : kR σ τ := ⟨g.1 0 16 (by decide), g.1 0 17 (by decide), g.2.1 9 (by decide), g.2.1 11 (by decide), fun n a b i z w => g.2.2.1 n a b i z (by omega)⟩
theorem m_instance {i s u : Int32} {d : Nat} {Q : Int32 → am_S → Prop} (hV : Sm σ V) (hG : MRf σ) (H : ∀ r τ V', mI σ τ → Sm τ V' → Q r τ) : am_K ri am_Lm IX11_instance (d + 131) [.ref 0, .int i, .int s, .int u] σ Q := by
  have no : ∀ r, Q r σ := fun r => H r σ V mI_rfl hV
  obtain ⟨ns, c, hN, hc, hc50, hrk, hMg⟩ := hG
  have h4 := hN.2.1
  refine vX11_instance (m_has (d := d + 129) hc hc50 ⟨fun _ => no _, fun z => absurd rfl z⟩ fun j ej hj => ⟨fun z => absurd z (by decide), fun _ => ms_slot (d := d + 128) (fun k hk ek => ⟨fun z => absurd z (by decide), fun _ => ms_slot (d := d + 128) (fun l hl el => ⟨fun _ => ⟨by rw [ek]; exact vp_in_nI hk (by decide), ?_⟩, fun z => absurd z (by decide)⟩) (fun _ => ⟨fun z => absurd rfl z, fun _ => no _⟩)⟩) (fun _ => ⟨fun _ => no _, fun z => absurd rfl z⟩)⟩)
  rw [ek, ej, el, nI_clamp (n := k) (by omega)]
  refine ⟨fun hk1 => vX11_begin ⟨Or.inl rfl, ?_⟩, fun _ => no _⟩
  obtain ⟨x, hVk, hxc, hxf, hxs⟩ : ∃ x, V k = some x ∧ Can x ∧ fits x ∧ seg σ (40 * k) x := by
    rcases hV k hk with ⟨-, z⟩ | ⟨x, v1, -, c1, c2, c3⟩
    · exact absurd z hk1
    · exact ⟨x, v1, c1, c2, c3⟩
  obtain ⟨r, r1, r2⟩ := hrk j hj
  -- what is put
  have loop : ∀ (e v : Nat) (θ : Nat → Tm) (τ : am_S), v + e = 22 → mI σ τ → gS τ 0 4 = nI 17280 → gS τ 0 5 = nI 0 → gS τ 0 7 = nI 0 → gA τ 7 = gA σ 7 → (∀ n, n < 5 → gA τ n = gA σ n) → (∀ a, a < v → canF 41 (θ a) ∧ (pts (θ a)).length ≤ 1000 ∧ ((gA τ 17 a < 0 ∧ θ a = node 0 a []) ∨ ∃ q, gA τ 17 a = nI q ∧ seg τ q (θ a) ∧ q + (θ a).length ≤ 17280)) → am_X ri am_Lm IX11_instance (d + 130 + 1) 51 [some (.ref 0), some (.int (nI j)), some (.int (nI k)), some (.int (nI l)), some (.int (nI v)), none] [] τ Q := by
    intro e
    induction e with
    | zero =>
      intro v θ τ hv g s4 s5 s7 h7 hm hθ
      have hv22 : v = 22 := by omega
      subst hv22
      have hVτ : Sm τ V := fun a ha => by
        rcases hV a ha with ⟨q1, q2⟩ | ⟨y, q1, q2, q3, q4, q5⟩
        · exact Or.inl ⟨q1, by rw [h7]; exact q2⟩
        · exact Or.inr ⟨y, q1, by rw [h7]; exact q2, q3, q4, seg_move (fun n n1 n4 i _ => by rw [hm n (by omega)]) q5⟩
      refine vX11_instance_51 ⟨fun _ => m_fill (θ := θ) (T := 17280) (d := d) hk hl hVτ hVk s5 s7 s4 (by decide) (by decide) (fun a ha => hθ a ha) (fun _ => by decide) (fun hf τ1 g1 hV1 => ?_) (fun hf τ1 g1 hV1 => ?_), fun z => absurd (by decide) z⟩
      · exact H _ τ1 _ (mI_trans g (mI_mW g1)) hV1
      · exact H _ τ1 _ (mI_trans g (mI_mW g1)) hV1
    | succ e ih =>
      intro v θ τ hv g s4 s5 s7 h7 hm hθ
      have hNτ : mN ns τ := ⟨(g.1 0 17 (by decide)).trans hN.1, hN.2.1, hN.2.2.1, fun i' a ha => by rw [g.2.1 9 (by decide)]; exact hN.2.2.2 i' a ha⟩
      have step : ∀ (w : Int32) (y : Tm), canF 41 y → (pts y).length ≤ 1000 → ((w < 0 ∧ y = node 0 v []) ∨ ∃ q, w = nI q ∧ seg τ q y ∧ q + y.length ≤ 17280) → am_X ri am_Lm IX11_instance (d + 130 + 1) 51 [some (.ref 0), some (.int (nI j)), some (.int (nI k)), some (.int (nI l)), some (.int (nI v + (1 : Int32))), none] [] (wA τ 17 v w) Q := fun w y y1 y2 y3 => by
        rw [nI_1]
        refine ih (v + 1) (fun a => if a = v then y else θ a) _ (by omega) ⟨g.1, fun n z => by
          rw [← g.2.1 n z]
          funext i'
          exact wA_ne (fun e' => z (by rw [e'.1]; decide)), fun n a b i' z1 z2 => by
          rw [wA_ne (by omega)]
          exact g.2.2.1 n a b i' z1 z2, g.2.2.2⟩ s4 s5 s7 (by rw [← h7]; funext i'; exact wA_ne (by omega)) (fun n hn => by rw [← hm n hn]; funext i'; exact wA_ne (by omega)) (fun a ha => ?_)
        have segk : ∀ q z, seg τ q z → seg (wA τ 17 v w) q z := fun q z hz => seg_move (fun n n1 n4 i' _ => wA_ne (by omega)) hz
        by_cases ea : a = v
        · subst ea
          simp only [if_true]
          refine ⟨y1, y2, ?_⟩
          rw [wA_at]
          rcases y3 with y3 | ⟨q, q1, q2, q3⟩
          · exact Or.inl y3
          · exact Or.inr ⟨q, q1, segk _ _ q2, q3⟩
        · simp only [if_neg ea]
          obtain ⟨z1, z2, z3⟩ := hθ a (by omega)
          refine ⟨z1, z2, ?_⟩
          rw [wA_ne (by omega)]
          rcases z3 with z3 | ⟨q, q1, q2, q3⟩
          · exact Or.inl z3
          · exact Or.inr ⟨q, q1, segk _ _ q2, q3⟩
      refine vX11_instance_51 ⟨fun z => absurd z (nI_ge (a := v) (b := 22) (by omega) (by omega)), fun _ => m_nameOf (d := d + 129) hNτ (by omega) (fun hm' => ⟨fun _ => ⟨vp_in_nI (by omega) (by omega), ?_⟩, fun z => absurd (nI_pos' (by have := ixN_lt hm'; omega)) z⟩) (fun _ => ⟨fun z => absurd z (by decide), fun _ => ⟨vp_in_nI (by omega) (by omega), ?_⟩⟩)⟩
      · have hk' := ixN_lt hm'
        obtain ⟨y, y1, y2, y3⟩ := hMg r (ixN v ns) r1 hk'
        have hy40 := y2.1
        rw [nI_clamp (n := j) (by omega), g.2.1 11 (by decide), r2]
        refine m_matcherAt (d := d + 129) ⟨vp_in_nI (by omega) (by omega), ?_⟩
        rw [nI_clamp (n := v) (by omega)]
        exact step _ y (canF_mono (by omega) (canF_len y y1)) (by have := (fits_pts y1 y2).1; omega) (Or.inr ⟨_, rfl, seg_move (fun n n1 n4 i' _ => by rw [hm n (by omega)]) y3, by omega⟩)
      · rw [nI_clamp (n := v) (by omega)]
        have hcv : Can (node 0 v []) := Can_mk (Or.inl ⟨rfl, by omega, rfl⟩) (fun _ z => by cases z)
        exact step _ (node 0 v []) (canF_mono (by simp [node]) (canF_len _ hcv)) (by rw [pts_node (fun _ z => by cases z)]; simp) (Or.inl ⟨by decide, rfl⟩)
  refine loop 22 0 (fun _ => bigT) (wS (wS (wS σ 0 4 17280) 0 5 0) 0 7 0) (by omega) ⟨fun n k z => ?_, fun _ _ => rfl, fun _ _ _ _ _ _ => rfl, rfl⟩ ?_ ?_ ?_ rfl (fun _ _ => rfl) (fun a ha => by omega)
  · rw [wS_ne (fun e => z (by rw [e.1, e.2]; decide)), wS_ne (fun e => z (by rw [e.1, e.2]; decide)), wS_ne (fun e => z (by rw [e.1, e.2]; decide))]
  · rw [wS_ne (by omega), wS_ne (by omega), wS_at]; rfl
  · rw [wS_ne (by omega), wS_at]; rfl
  · rw [wS_at]; rfl
end RM2
