/-! ===== the reference's solve: the order of what was found ===== -/
theorem lxl_at : ∀ {j : Nat} {x y : List Nat}, j < x.length → j < y.length → (∀ i, i < j → x.getD i 0 = y.getD i 0) → x.getD j 0 ≠ y.getD j 0 → (lxl y x ↔ y.getD j 0 < x.getD j 0)
  | _, [], _, h, _, _, _ => by simp at h
  | _, _ :: _, [], _, h, _, _ => by simp at h
  | 0, a :: x, b :: y, _, _, _, hn => by
    constructor
    · rintro (h | ⟨e, _⟩)
      · exact h
      · exact absurd e.symm hn
    · exact Or.inl
  | j + 1, a :: x, b :: y, h1, h2, he, hn => by
    have e0 : a = b := he 0 (by omega)
    have := lxl_at (j := j) (x := x) (y := y) (by simpa using h1) (by simpa using h2) (fun i hi => he (i + 1) (by omega)) hn
    constructor
    · rintro (h | ⟨_, h⟩)
      · omega
      · exact this.mp h
    · exact fun h => Or.inr ⟨e0.symm, this.mpr h⟩
theorem getD_ext : ∀ {x y : List Nat}, x.length = y.length → (∀ i, i < x.length → x.getD i 0 = y.getD i 0) → x = y
  | [], [], _, _ => rfl
  | [], _ :: _, h, _ => by simp at h
  | _ :: _, [], h, _ => by simp at h
  | a :: x, b :: y, h, he => by
    have e0 : a = b := he 0 (by simp)
    rw [e0, getD_ext (x := x) (y := y) (by simpa using h) fun i hi => he (i + 1) (by simpa using hi)]
theorem nd_ne {F : List (List Nat)} (hn : F.Nodup) {i j : Nat} (h : i < j) (hj : j < F.length) : F.getD i [] ≠ F.getD j [] := by
  have := List.pairwise_iff_getElem.mp hn i j (by omega) hj h
  rw [List.getD_eq_getElem?_getD, List.getD_eq_getElem?_getD, List.getElem?_eq_getElem (by omega : i < F.length), List.getElem?_eq_getElem hj]
  exact this
/-- what solution(i, j) reads -/
def mb (U : Nat) (G : List (List Nat)) (σ : am_S) : Prop := gS σ 0 32 = nI G.length ∧ ∀ i, i < G.length → ∃ k, k < 100 ∧ gA σ 21 i = nI k ∧ ∀ j, j < U → gA σ 19 (6 * k + j) = nI ((G.getD i []).getD j 0)
section MO
variable {σ τ : am_S} {R U S : Nat} {A : Nat → Nat → Int} {F : List (List Nat)} {d : Nat}
theorem m_orderSolutions {Q : Int32 → am_S → Prop} {a b : Nat} (hb : ms R U A σ) (hf : mf U F σ) (ha : a < F.length) (hbF : b < F.length) (hF2 : ∀ y ∈ F, sm y ≤ 16 ∧ y.length = U) (H : ∀ v : Int32, (v ≤ 0 ↔ ¬ lxl (F.getD b []) (F.getD a [])) → Q v σ) : am_K ri am_Lm IX11_orderSolutions (d + 1) [.ref 0, .int (nI a), .int (nI b)] σ Q := by
  obtain ⟨b1, b2, b3, b4, b5, b6⟩ := hb
  obtain ⟨f1, f2, f3⟩ := hf
  have mem : ∀ i, i < F.length → F.getD i [] ∈ F := fun i hi => by
    rw [List.getD_eq_getElem?_getD, List.getElem?_eq_getElem hi]
    exact List.getElem_mem hi
  have la := hF2 _ (mem a ha)
  have lb := hF2 _ (mem b hbF)
  have loop : ∀ m k, k + m = U → (∀ i, i < k → (F.getD a []).getD i 0 = (F.getD b []).getD i 0) → am_X ri am_Lm IX11_orderSolutions (d + 1) 2 [some (.ref 0), some (.int (nI a)), some (.int (nI b)), some (.int (nI k))] [] σ Q := by
    intro m
    induction m with
    | zero =>
      intro k hk he
      refine vX11_orderSolutions_2 (pk_le U k (fun _ => H 0 ?_) (fun h => by omega) b2 rfl (by omega) (by omega))
      have e : F.getD a [] = F.getD b [] := getD_ext (by omega) fun i hi => he i (by omega)
      rw [e]
      exact ⟨fun _ => lxl_irrefl _, fun _ => by decide⟩
    | succ m ih =>
      intro k hk he
      have e1 : ∀ q, (6 : Int32) * nI q + nI k = nI (6 * q + k) := fun q => by rw [show (6 : Int32) = nI 6 from rfl, pk_mul, nI_add]
      refine vX11_orderSolutions_2 (pk_le U k (fun h => by omega) (fun _ => ?_) b2 rfl (by omega) (by omega))
      rw [e1, e1, nI_clamp (n := 6 * a + k) (by omega), nI_clamp (n := 6 * b + k) (by omega), f3 a ha k (by omega), f3 b hbF k (by omega), nI_1]
      have c1 := big_sm (F.getD a []) k
      have c2 := big_sm (F.getD b []) k
      have p1 := la.1
      have p2 := lb.1
      refine ⟨vp_in_nI (by omega) (by decide), vp_in_nI (by omega) (by decide), pk_eq ((F.getD a []).getD k 0) ((F.getD b []).getD k 0) (fun h => ih (k + 1) (by omega) fun i hi => ?_) (fun h => ⟨vp_in_nI (by omega) (by decide), vp_in_nI (by omega) (by decide), H _ ?_⟩)⟩
      · by_cases e : i = k
        · subst e
          exact h
        · exact he i (by omega)
      · rw [lxl_at (by omega) (by omega) he h, i_le, pk_sub_toInt (by omega) (by omega), l_0]
        omega
  exact vX11_orderSolutions (loop U 0 (by omega) fun i hi => absurd hi (Nat.not_lt_zero _))
theorem m_sortS {Q : Int32 → am_S → Prop} {sp : Int32} (σ0 : am_S) (hb0 : ms R U A σ0) (hf0 : mf U F σ0) (hn : F.Nodup) (hF2 : ∀ y ∈ F, sm y ≤ 16 ∧ y.length = U)
    (H : ∀ (σ' : am_S) (K : List Nat), fr [] [21] [] [] σ0 σ' → K.length = F.length → (∀ k ∈ K, k < F.length) → K.Pairwise (fun a b => lxl (F.getD a []) (F.getD b [])) → (∀ i, i < K.length → gA σ' 21 i = nI (K.getD i 0)) → Q (nI F.length) σ') :
    ∀ (m i : Nat) (K : List Nat) (τ : am_S), i + m = F.length → K.length = i → (∀ k ∈ K, k < i) → K.Pairwise (fun a b => lxl (F.getD a []) (F.getD b [])) → (∀ p, p < i → gA τ 21 p = nI (K.getD p 0)) → fr [] [21] [] [] σ0 τ → am_X ri am_Lm IX11_solve (d + 1 + 1) 67 [some (.ref 0), some (.int sp), some (.int (nI i)), none] [] τ Q := by
  have mem : ∀ i, i < F.length → F.getD i [] ∈ F := fun i hi => by
    rw [List.getD_eq_getElem?_getD, List.getElem?_eq_getElem hi]
    exact List.getElem_mem hi
  have hF100 := hf0.2.1
  intro m
  induction m with
  | zero =>
    intro i K τ hi hK hKi hS hA hfr
    have e32 : gS τ 0 32 = nI F.length := by rw [hfr.1 0 32 (by decide)]; exact hf0.1
    refine vX11_solve_67 (pk_le F.length i (fun _ => ?_) (fun h => by omega) e32 rfl (by omega) (by omega))
    rw [e32]
    exact H τ K hfr (by omega) (fun k hk => by have := hKi k hk; omega) hS fun p hp => hA p (by omega)
  | succ m ih =>
    intro i K τ hi hK hKi hS hA hfr
    have e32 : ∀ υ, fr [] [21] [] [] σ0 υ → gS υ 0 32 = nI F.length := fun υ h => by rw [h.1 0 32 (by decide)]; exact hf0.1
    refine vX11_solve_67 (pk_le F.length i (fun h => by omega) (fun _ => ?_) (e32 τ hfr) rfl (by omega) (by omega))
    -- the inner loop
    have inn : ∀ j υ, j ≤ i → fr [] [21] [] [] σ0 υ → (∀ p, p < j → gA υ 21 p = nI (K.getD p 0)) → (∀ p, j < p → p ≤ i → gA υ 21 p = nI (K.getD (p - 1) 0)) → (∀ a ∈ K.drop j, lxl (F.getD i []) (F.getD a [])) → am_X ri am_Lm IX11_solve (d + 1 + 1) 77 [some (.ref 0), some (.int sp), some (.int (nI i)), some (.int (nI j))] [] υ Q := by
      intro j
      -- the end of the inner loop
      have fin : ∀ j υ, j ≤ i → fr [] [21] [] [] σ0 υ → (∀ p, p < j → gA υ 21 p = nI (K.getD p 0)) → (∀ p, j < p → p ≤ i → gA υ 21 p = nI (K.getD (p - 1) 0)) → (∀ a ∈ K.drop j, lxl (F.getD i []) (F.getD a [])) → (∀ a ∈ K.take j, lxl (F.getD a []) (F.getD i [])) → am_X ri am_Lm IX11_solve (d + 1 + 1) 67 [some (.ref 0), some (.int sp), some (.int (nI i + (1 : Int32))), none] [] (wA υ 21 (nI j).toNatClampNeg (nI i)) Q := by
        intro j υ hj g1 g2 g3 g4 g5
        rw [nI_1, nI_clamp (by omega)]
        refine ih (i + 1) (K.take j ++ i :: K.drop j) _ (by omega) (by rw [ins_len (by omega)]; omega) (fun k hk => ?_) (so_ins (r := fun a b => lxl (F.getD a []) (F.getD b [])) (fun a b c h1 h2 => lxl_trans _ _ _ h1 h2) hS g5 g4) (fun p hp => ?_) (fr_wA g1 (by decide))
        · rcases ins_mem.mp hk with h | h
          · omega
          · have := hKi k h; omega
        · rw [List.getD_eq_getElem?_getD, ins_get (by omega) (by omega)]
          by_cases h1 : p < j
          · rw [if_pos h1, wA_ne (by omega), g2 p h1, List.getD_eq_getElem?_getD]
          · rw [if_neg h1]
            by_cases h2 : p = j
            · rw [if_pos h2, h2, wA_at]
              rfl
            · rw [if_neg h2, wA_ne (by omega), g3 p (by omega) (by omega), List.getD_eq_getElem?_getD]
      induction j with
      | zero =>
        intro υ hj g1 g2 g3 g4
        exact vX11_solve_77 ⟨fun _ => ⟨pk_in 0 100 (by omega), fin 0 υ hj g1 g2 g3 g4 (by simp)⟩, fun z => absurd (by decide) z⟩
      | succ j ihj =>
        intro υ hj g1 g2 g3 g4
        have hmf : mf U F υ := ⟨e32 υ g1, hf0.2.1, fun i hi j hj => by rw [g1.2.1 19 (by decide)]; exact hf0.2.2 i hi j hj⟩
        have hms : ms R U A υ := ms_fr hb0 (fr_mono g1 (by decide) (by decide) (by decide) (by decide))
        have hjl : j < K.length := by omega
        have hKj : K.getD j 0 = K[j] := by rw [List.getD_eq_getElem?_getD, List.getElem?_eq_getElem hjl]; rfl
        have hKjF : K.getD j 0 < i := by rw [hKj]; exact hKi _ (List.getElem_mem hjl)
        refine vX11_solve_77 ⟨fun z => absurd z (nI_nle (by omega) (by omega)), fun _ => ?_⟩
        rw [nI_pred, nI_clamp (n := j) (by omega), g2 j (by omega)]
        refine ⟨pk_in j 100 (by omega), m_orderSolutions (d := d) hms hmf (by omega) (by omega) hF2 fun v hv => ⟨fun z => ⟨pk_in (j + 1) 100 (by omega), ?_⟩, fun z => ⟨pk_in j 100 (by omega), pk_in (j + 1) 100 (by omega), ?_⟩⟩⟩
        · refine fin (j + 1) υ hj g1 g2 g3 g4 fun a ha => ?_
          have hnl := hv.mp z
          have hne : F.getD (K.getD j 0) [] ≠ F.getD i [] := nd_ne hn hKjF (by omega)
          have hlt : lxl (F.getD (K.getD j 0) []) (F.getD i []) := by
            rcases lxl_total (a := F.getD (K.getD j 0) []) (b := F.getD i []) (by rw [(hF2 _ (mem _ (by omega))).2, (hF2 _ (mem i (by omega))).2]) hne with h | h
            · exact h
            · exact absurd h hnl
          rw [List.take_succ, List.getElem?_eq_getElem hjl, Option.toList_some] at ha
          rcases List.mem_append.mp ha with h | h
          · obtain ⟨q, hq, e⟩ := List.getElem_of_mem h
            have hq2 : q < j := by simp at hq; omega
            rw [List.getElem_take] at e
            have := so_lt hS hq2 hjl
            rw [e, ← hKj] at this
            exact lxl_trans _ _ _ this hlt
          · simp at h
            rw [h, ← hKj]
            exact hlt
        · rw [show nI (j + 1) + (-1) = nI j from pk_m1 j, nI_clamp (n := j + 1) (by omega)]
          refine ihj _ (by omega) (fr_wA g1 (by decide)) (fun p hp => ?_) (fun p hp1 hp2 => ?_) (fun a ha => ?_)
          · rw [wA_ne (by omega)]
            exact g2 p (by omega)
          · by_cases e : p = j + 1
            · subst e
              rw [wA_at, g2 j (by omega)]
              rfl
            · rw [wA_ne (by omega)]
              exact g3 p (by omega) hp2
          · rw [List.drop_eq_getElem_cons hjl] at ha
            rcases List.mem_cons.mp ha with h | h
            · rw [h, ← hKj]
              exact Classical.byContradiction fun c => z (hv.mpr c)
            · exact g4 a h
    refine inn i τ (Nat.le_refl _) hfr hA (fun p h1 h2 => by omega) (fun a ha => ?_)
    rw [List.drop_of_length_le (by omega)] at ha
    simp at ha
theorem m_solve {Q : Int32 → am_S → Prop} {sp : Int32} (hb : ms R U A σ)
    (Hbad : ¬ (1 ≤ sp.toInt ∧ sp.toInt ≤ 16) → Q (-1) σ)
    (H1 : ∀ S σ', sp = nI S → 1 ≤ S → S ≤ 16 → fr [(0, 27), (0, 32)] [19, 20, 21] [] [] σ σ' → (sols R U S A).length ≤ 100 → mb U (sols R U S A) σ' → Q (nI (sols R U S A).length) σ')
    (H0 : ∀ S σ', sp = nI S → 1 ≤ S → S ≤ 16 → fr [(0, 27), (0, 32)] [19, 20, 21] [] [] σ σ' → 100 < (sols R U S A).length → mb U [] σ' → Q (-4) σ') : am_K ri am_Lm IX11_solve (d + 8) [.ref 0, .int sp] σ Q := by
  have hin := m_inI (σ := σ) (d := d + 6) (n := sp) (lo := 1) (hi := 16) (a := 1) (b := 16) j_1 j_16
  refine vX11_solve ⟨_, _, hin, ?_⟩
  by_cases hsp : 1 ≤ sp.toInt ∧ sp.toInt ≤ 16
  · rw [b01_t hsp]
    obtain ⟨S, hS1, hS2, rfl⟩ := i_2 (n := sp) (lo := 1) (hi := 16) (by decide) hsp
    refine ⟨fun _ => ⟨Or.inl rfl, ?_⟩, fun z => absurd z (by decide)⟩
    have loop : ∀ m T F τ, T + m = S + 1 → 0 < T → fr [(0, 27), (0, 32)] [19, 20] [] [] σ τ → (mg1 R U S A τ ∨ (mg R U S A F τ ∧ (∀ y, y ∈ F ↔ isMin R U S A y ∧ sm y < T))) → am_X ri am_Lm IX11_solve (d + 7 + 1) 26 [some (.ref 0), some (.int (nI S)), some (.int (nI T)), none] [] τ Q := by
      have full : ∀ τ, fr [(0, 27), (0, 32)] [19, 20] [] [] σ τ → mg1 R U S A τ → Q (-4) (wS τ 0 32 0) := by
        intro τ g1 g2
        obtain ⟨g2, G, n1, n2, n3⟩ := g2
        refine H0 S _ rfl hS1 hS2 (fr_wS (fr_mono g1 (by decide) (by decide) (by decide) (by decide)) (by decide)) ?_ ⟨?_, fun i hi => absurd hi (by simp)⟩
        · have := nd_le (l := sols R U S A) n1 fun x hx => sols_mem.mpr (n3 x hx)
          omega
        · rw [wS_at]
          rfl
      intro m
      induction m with
      | zero =>
        intro T F τ hT hT0 g1 g2
        refine vX11_solve_26 (pk_lt S T (fun _ => ⟨fun z => ?_, fun z => ?_⟩) (fun h => by omega))
        · rcases g2 with g2 | ⟨g2, g3⟩
          · exact absurd z (by rw [g2.1]; decide)
          · have hFm : ∀ y, y ∈ F ↔ isMin R U S A y := fun y => (g3 y).trans ⟨fun h => h.1, fun h => ⟨h, by have := h.1.2.1; omega⟩⟩
            have hF2 : ∀ y ∈ F, sm y ≤ 16 ∧ y.length = U := fun y hy => by
              have := ((hFm y).mp hy).1
              exact ⟨by have := this.2.1; omega, this.1⟩
            refine m_sortS (d := d + 6) (sp := nI S) τ (ms_fr hb (fr_mono g1 (by decide) (by decide) (by decide) (by decide))) g2.2.1 g2.2.2 hF2 (fun σ' K f1 f2 f3 f4 f5 => ?_) F.length 0 [] τ (by omega) rfl (by simp) List.Pairwise.nil (fun p hp => absurd hp (Nat.not_lt_zero _)) fr_rfl
            have hlen : F.length = (sols R U S A).length := Nat.le_antisymm (nd_le g2.2.2 fun x hx => sols_mem.mpr ((hFm x).mp hx)) (nd_le (nd_pair lxl_irrefl sols_sorted) fun x hx => (hFm x).mpr (sols_mem.mp hx))
            have hsol : K.map (fun k => F.getD k []) = sols R U S A := by
              refine so_len lxl_irrefl lxl_trans (List.pairwise_map.mpr f4) sols_sorted (fun x hx => ?_) (by simp; omega)
              obtain ⟨k, hk, rfl⟩ := List.mem_map.mp hx
              have hk2 := f3 k hk
              rw [sols_mem, ← hFm, List.getD_eq_getElem?_getD, List.getElem?_eq_getElem hk2]
              exact List.getElem_mem hk2
            rw [hlen]
            have e32 : gS σ' 0 32 = nI F.length := by rw [f1.1 0 32 (by decide)]; exact g2.2.1.1
            refine H1 S σ' rfl hS1 hS2 (fr_trans (fr_mono g1 (by decide) (by decide) (by decide) (by decide)) (fr_mono f1 (by decide) (by decide) (by decide) (by decide))) (by have := g2.2.1.2.1; omega) ⟨by rw [← hlen]; exact e32, fun i hi => ?_⟩
            have hiK : i < K.length := by omega
            have hKi : K.getD i 0 = K[i] := by rw [List.getD_eq_getElem?_getD, List.getElem?_eq_getElem hiK]; rfl
            have hk := f3 _ (List.getElem_mem hiK)
            refine ⟨K[i], by have := g2.2.1.2.1; omega, by rw [← hKi]; exact f5 i hiK, fun j hj => ?_⟩
            rw [f1.2.1 19 (by decide), g2.2.1.2.2 _ hk j hj, ← hsol]
            congr 2
            simp [List.getD_eq_getElem?_getD, List.getElem?_map, List.getElem?_eq_getElem hiK]
        · rcases g2 with g2 | ⟨g2, g3⟩
          · exact full τ g1 g2
          · exact absurd g2.1 z
      | succ m ih =>
        intro T F τ hT hT0 g1 g2
        refine vX11_solve_26 (pk_lt S T (fun h => by omega) (fun _ => ⟨fun z => ⟨fun z2 => absurd z2 z, fun _ => ?_⟩, fun z => ?_⟩))
        · rcases g2 with g2 | ⟨g2, g3⟩
          · exact full τ g1 g2
          · exact absurd g2.1 z
        · rcases g2 with g2 | ⟨g2, g3⟩
          · exact absurd z (by rw [g2.1]; decide)
          · have hU1 := hb.2.2.2.1
            have hU2 := hb.2.2.2.2.1
            rw [nI_1, show d + 7 = (d + 6 - U) + (U - 1) + 2 by omega]
            refine m_give (S := S) (T := T) (by omega) hS2 hT0 (U - 1) [] T (d + 6 - U) F τ _ (by simp; omega) (by simp [sm]) (ms_fr hb (fr_mono g1 (by decide) (by decide) (by decide) (by decide))) (fun j hj => absurd hj (by simp)) (Or.inr ⟨g2, fun y hy => ⟨((g3 y).mp hy).1, Or.inl ((g3 y).mp hy).2⟩, fun y h1 h2 => (g3 y).mpr ⟨h1, h2⟩, fun σ' F' f1 f2 f3 f4 => ?_, fun σ' f1 f2 f3 => ?_⟩)
            · rw [show (d + 6 - U) + (U - 1) + 2 = d + 7 by omega]
              refine ih (T + 1) F' σ' (by omega) (by omega) (fr_trans g1 f1) (Or.inr ⟨f3, fun y => ?_⟩)
              rw [f4 y, g3 y]
              constructor
              · rintro (⟨h1, h2⟩ | ⟨h1, h2, _⟩)
                · exact ⟨h1, by omega⟩
                · exact ⟨h1, by omega⟩
              · rintro ⟨h1, h2⟩
                by_cases e : sm y = T
                · exact Or.inr ⟨h1, e, y, rfl⟩
                · exact Or.inl ⟨h1, by omega⟩
            · rw [show (d + 6 - U) + (U - 1) + 2 = d + 7 by omega]
              exact ih (T + 1) F σ' (by omega) (by omega) (fr_trans g1 f1) (Or.inl f3)
    refine loop S 1 [] _ (by omega) (by omega) (fr_wS (fr_wS fr_rfl (by decide)) (by decide)) (Or.inr ⟨⟨wS_at _ _ _ _, ⟨?_, by simp, fun i hi => absurd hi (by simp)⟩, List.Pairwise.nil⟩, fun y => ⟨fun h => absurd h (by simp), fun h => ?_⟩⟩)
    · rw [wS_ne (by omega), wS_at]
      rfl
    · have := h.1.1.2.2.1
      have := h.2
      omega
  · rw [b01_f hsp]
    exact ⟨fun z => absurd rfl z, fun _ => Hbad hsp⟩
end MO
