/-! ===== the reference: gather ===== -/
noncomputable def ovs (P : List (Tm × Int)) (a : Nat) : List Nat := (List.range a).filter (fun w => decide (net (node 0 w []) P ≠ 0))
noncomputable def gvs (P : List (Tm × Int)) (k : Nat) : List Tm := ((gds P).take k).filter (fun z => decide (net z P ≠ 0))
theorem ovs_s (P : List (Tm × Int)) (a : Nat) : ovs P (a + 1) = ovs P a ++ (if net (node 0 a []) P = 0 then [] else [a]) := by
  unfold ovs
  rw [List.range_succ, List.filter_append]
  by_cases h : net (node 0 a []) P = 0
  · simp [h]
  · simp [h]
theorem gvs_s {P : List (Tm × Int)} {k : Nat} (hk : k < (gds P).length) : gvs P (k + 1) = gvs P k ++ (if net (gds P)[k] P = 0 then [] else [(gds P)[k]]) := by
  unfold gvs
  rw [take_snoc hk, List.filter_append]
  by_cases h : net (gds P)[k] P = 0
  · simp [h]
  · simp [h]
theorem ovs_len (P : List (Tm × Int)) (a : Nat) : (ovs P a).length ≤ a := by
  unfold ovs
  have := List.length_filter_le (fun w => decide (net (node 0 w []) P ≠ 0)) (List.range a)
  simpa using this
theorem gvs_len (P : List (Tm × Int)) (k : Nat) : (gvs P k).length ≤ k := by
  unfold gvs
  have := List.length_filter_le (fun z => decide (net z P ≠ 0)) ((gds P).take k)
  rw [List.length_take] at this
  omega
theorem tlt_var {a b : Nat} : tlt (node 0 a []) (node 0 b []) ↔ a < b := by
  rw [tlt_node]
  constructor
  · rintro (h | ⟨_, _, _, h⟩)
    · rcases h with h | ⟨_, h | ⟨_, h⟩⟩
      · exact absurd h (Nat.lt_irrefl _)
      · exact h
      · exact absurd h (Nat.lt_irrefl _)
    · exact absurd h (tlt_irr _)
  · intro h
    exact Or.inl (Or.inr ⟨rfl, Or.inl h⟩)
theorem tlt_vg {a : Nat} {z : Tm} (hz : wf z) (h : kd z ≠ 0) : tlt (node 0 a []) z := by
  obtain ⟨k, b, L, e, _⟩ := wf_out hz
  subst e
  rw [kd_node] at h
  exact tlt_node.mpr (Or.inl (Or.inl (by show 0 < k; omega)))
/-- both sides have the same unknowns, in the same order -/
theorem uN_split {P : List (Tm × Int)} (hC : ∀ r ∈ P, Can r.1) (h6 : ∀ r ∈ P, kd r.1 = 0 → nm r.1 < 6) : uN P = (ovs P 6).map (fun w => (node 0 w [], net (node 0 w []) P)) ++ (gvs P (gds P).length).map (fun z => (z, net z P)) := by
  have hw : ∀ z ∈ P.map (·.1), wf z := fun z hz => by
    obtain ⟨r, hr, e⟩ := List.mem_map.mp hz
    rw [← e]; exact Can_wf (hC r hr)
  have hgs : ∀ z, z ∈ gvs P (gds P).length ↔ z ∈ gds P ∧ net z P ≠ 0 := fun z => by
    unfold gvs
    rw [List.take_of_length_le (Nat.le_refl _), List.mem_filter]
    simp
  have hos : ∀ w, w ∈ ovs P 6 ↔ w < 6 ∧ net (node 0 w []) P ≠ 0 := fun w => by
    unfold ovs
    rw [List.mem_filter, List.mem_range]
    simp
  refine so_eq (r := fun p q : Tm × Int => tlt p.1 q.1) (fun a => tlt_irr _) (fun a b c => tlt_trans _ _ _) (List.pairwise_map.mp (uN_sorted hw)) ?_ (fun q hq => ?_) (fun q hq => ?_)
  · refine List.pairwise_append.mpr ⟨?_, ?_, fun p hp q hq => ?_⟩
    · rw [List.pairwise_map]
      unfold ovs
      refine List.Pairwise.imp (fun h => tlt_var.mpr h) (List.Pairwise.filter _ List.pairwise_lt_range)
    · rw [List.pairwise_map]
      unfold gvs
      exact List.Pairwise.filter _ (List.Pairwise.sublist (List.take_sublist _ _) (gds_ss hw))
    · obtain ⟨w, hw1, e⟩ := List.mem_map.mp hp
      obtain ⟨z, hz1, e2⟩ := List.mem_map.mp hq
      rw [← e, ← e2]
      have := gds_mem.mp ((hgs z).mp hz1).1
      exact tlt_vg (hw z this.1) this.2
  · obtain ⟨a1, a2, a3⟩ := uN_mem.mp hq
    have hCq : Can q.1 ∧ (kd q.1 = 0 → nm q.1 < 6) := by
      obtain ⟨r, hr, e⟩ := List.mem_map.mp a1
      rw [← e]; exact ⟨hC r hr, h6 r hr⟩
    rw [List.mem_append]
    by_cases h : kd q.1 = 0
    · have e := (kd0_node hCq.1 h).1
      refine Or.inl (List.mem_map.mpr ⟨nm q.1, (hos _).mpr ⟨hCq.2 h, ?_⟩, ?_⟩)
      · rw [← e, ← a2]; exact a3
      · rw [← e, ← a2]
    · refine Or.inr (List.mem_map.mpr ⟨q.1, (hgs _).mpr ⟨gds_mem.mpr ⟨a1, h⟩, by rw [← a2]; exact a3⟩, by rw [← a2]⟩)
  · rw [List.mem_append] at hq
    rcases hq with hq | hq
    · obtain ⟨w, hw1, e⟩ := List.mem_map.mp hq
      have h1 := (hos w).mp hw1
      rw [← e, uN_mem]
      refine ⟨?_, rfl, h1.2⟩
      exact Classical.byContradiction fun c => h1.2 (net_not c)
    · obtain ⟨z, hz1, e⟩ := List.mem_map.mp hq
      have h1 := (hgs z).mp hz1
      rw [← e, uN_mem]
      exact ⟨(gds_mem.mp h1.1).1, rfl, h1.2⟩
/-- the reference's unknowns -/
def um (U : List (Tm × Int)) (σ : am_S) : Prop := gS σ 0 40 = nI (vn U) ∧ gS σ 0 41 = nI (U.length - vn U) ∧ ∀ j q, U[j]? = some q → (gA σ 23 j).toInt = q.2 ∧ (j < vn U → gA σ 22 j = nI (nm q.1)) ∧ (vn U ≤ j → seg σ (16640 + 40 * (j - vn U)) q.1)
abbrev gaW (σ τ : am_S) : Prop := mX [(0, 40), (0, 41)] [22, 23, 27, 28, 29] 16640 17280 σ τ
section GA
variable {σ τ : am_S}
theorem wgh_fr {P : List (Tm × Int)} {S : List (Nat × Nat)} {A : List Nat} {lo hi : Nat} (h : wgh σ P) (g : mX S A lo hi σ τ) (h41 : (0, 41) ∉ S) (h27 : 27 ∉ A) (h28 : 28 ∉ A) (h29 : 29 ∉ A) (hl : 640 ≤ lo) : wgh τ P := by
  refine ⟨fun a ha => by rw [g.2.1 27 (by omega) h27]; exact h.1 a ha, by rw [g.1 0 41 h41]; exact h.2.1, fun i z hz => ?_⟩
  obtain ⟨⟨p, p1, p2, p3⟩, w⟩ := h.2.2 i z hz
  rw [g.2.1 28 (by omega) h28, g.2.1 29 (by omega) h29]
  exact ⟨⟨p, p1, p2, mX_seg g (Or.inl (by omega)) p3⟩, w⟩
theorem m_gather {k s t d : Nat} {x y : Tm} {Q : Int32 → am_S → Prop} (hk : k = 3 ∨ k = 4) (hx : Can x) (hfx : fits x) (hy : Can y) (hfy : fits y) (tx : takP k x) (ty : takP k y) (hs : s < 16) (ht : t < 16) (sx : seg σ (40 * s) x) (sy : seg σ (40 * t) y) (H : ∀ τ, gaW σ τ → um (uN (uP k x y)) τ → Q (nI (uN (uP k x y)).length) τ) : am_K ri am_Lm IX11_gather (d + 42) [.ref 0, .int (nI (40 * s)), .int (nI (40 * t)), .int (nI k)] σ Q := by
  have fx := fl1_fits hx hfx hk
  have fy := fl1_fits hy hfy hk
  have lx := hfx.1
  have ly := hfy.1
  have hPm : ∀ r ∈ uP k x y, Can r.1 ∧ fits r.1 ∧ (-1 ≤ r.2 ∧ r.2 ≤ 1) ∧ vb r.1 < 64 := fun r hr => by
    rcases uP_mem hr with ⟨h, e⟩ | ⟨h, e⟩
    · have := fx.2 _ h
      exact ⟨this.1, this.2.1, by omega, Nat.lt_of_le_of_lt (vb_fl1 hx h) tx.1⟩
    · have := fy.2 _ h
      exact ⟨this.1, this.2.1, by omega, Nat.lt_of_le_of_lt (vb_fl1 hy h) ty.1⟩
  have hP16 : (uP k x y).length ≤ 16 := by
    have h3 : (uP k x y).length = (fl1 k x).length + (fl1 k y).length := by
      unfold uP
      simp
    omega
  have h6 : ∀ r ∈ uP k x y, kd r.1 = 0 → nm r.1 < 6 := fun r hr h0 => by
    obtain ⟨a1, _, _, a4⟩ := hPm r hr
    rw [vb_var a1 h0] at a4
    refine Nat.lt_of_not_le fun h => ?_
    have := Nat.pow_le_pow_right (n := 2) (by decide) h
    omega
  have hsplit := uN_split (fun r hr => (hPm r hr).1) h6
  have hok := uN_ok hk hx hfx hy hfy tx ty
  have hvn : vn (uN (uP k x y)) = (ovs (uP k x y) 6).length := by
    rw [hsplit]
    unfold vn
    rw [List.filter_append, List.length_append]
    have e1 : ((ovs (uP k x y) 6).map (fun w => (node 0 w [], net (node 0 w []) (uP k x y)))).filter (fun q => decide (kd q.1 = 0)) = (ovs (uP k x y) 6).map (fun w => (node 0 w [], net (node 0 w []) (uP k x y))) := by
      rw [List.filter_eq_self]
      intro q hq
      obtain ⟨w, _, e⟩ := List.mem_map.mp hq
      rw [← e]
      simp [kd_node]
    have e2 : ((gvs (uP k x y) (gds (uP k x y)).length).map (fun z => (z, net z (uP k x y)))).filter (fun q => decide (kd q.1 = 0)) = [] := by
      rw [List.filter_eq_nil_iff]
      intro q hq
      obtain ⟨z, hz, e⟩ := List.mem_map.mp hq
      rw [← e]
      unfold gvs at hz
      have hz2 := List.mem_of_mem_take (List.mem_filter.mp hz).1
      have := (gds_mem.mp hz2).2
      simpa using this
    rw [e1, e2]
    simp
  generalize hPP : uP k x y = P at *
  have hgl := gds_len P
  -- the grounds that count are copied
  have last : ∀ m i τ, i + m = (gds P).length → gaW σ τ → wgh τ P → gS τ 0 40 = nI (ovs P 6).length → (∀ j w, (ovs P 6)[j]? = some w → gA τ 22 j = nI w ∧ (gA τ 23 j).toInt = net (node 0 w []) P) → (∀ j z, (gvs P i)[j]? = some z → seg τ (16640 + 40 * j) z ∧ (gA τ 23 ((ovs P 6).length + j)).toInt = net z P) → am_X ri am_Lm IX11_gather (d + 42) 169 [some (.ref 0), some (.int (nI (40 * s))), some (.int (nI (40 * t))), some (.int (nI k)), some (.int (nI (gvs P i).length)), some (.int (nI i))] [] τ Q := by
    intro m
    have ho6 := ovs_len P 6
    induction m with
    | zero =>
      intro i τ hi g1 g2 g3 g4 g5
      obtain rfl : i = (gds P).length := by omega
      have hgv := gvs_len P (gds P).length
      refine vX11_gather_169 (pk_le (gds P).length (gds P).length (fun _ => ?_) (fun h => by omega) g2.2.1 rfl (by omega) (by omega))
      rw [g3, nI_add]
      have hlen : (uN P).length = (ovs P 6).length + (gvs P (gds P).length).length := by
        rw [hsplit]; simp
      rw [← hlen]
      refine H _ (mX_wS g1 (by decide)) ⟨?_, ?_, fun j q hq => ?_⟩
      · rw [wS_ne (by omega), hvn]; exact g3
      · rw [wS_at, hvn, hlen]
        congr 1
        omega
      · rw [hvn]
        rw [hsplit] at hq
        rw [gA_wS]
        by_cases hj : j < (ovs P 6).length
        · rw [List.getElem?_append_left (by simpa using hj), List.getElem?_map] at hq
          obtain ⟨w, hw, e⟩ := Option.map_eq_some_iff.mp hq
          obtain ⟨a1, a2⟩ := g4 j w hw
          rw [← e]
          exact ⟨a2, fun _ => by rw [a1, nm_node], fun h => by omega⟩
        · rw [List.getElem?_append_right (by simpa using hj), List.getElem?_map, List.length_map] at hq
          obtain ⟨z, hz, e⟩ := Option.map_eq_some_iff.mp hq
          obtain ⟨a1, a2⟩ := g5 _ z hz
          rw [← e]
          rw [show (ovs P 6).length + (j - (ovs P 6).length) = j by omega] at a2
          exact ⟨a2, fun h => absurd h hj, fun _ => seg_A (σ := τ) gA_wS a1⟩
    | succ m ih =>
      intro i τ hi g1 g2 g3 g4 g5
      have hil : i < (gds P).length := by omega
      have hgv := gvs_len P i
      obtain ⟨⟨p, p1, p2, p3⟩, w3⟩ := g2.2.2 i _ (List.getElem?_eq_getElem hil)
      have hzm := gds_mem.mp (List.getElem_mem hil)
      have hzC : Can (gds P)[i] ∧ fits (gds P)[i] := by
        obtain ⟨r, hr, e⟩ := List.mem_map.mp hzm.1
        rw [← e]; exact ⟨(hPm r hr).1, (hPm r hr).2.1⟩
      have hz40 := hzC.2.1
      have nx := ih (i + 1)
      rw [gvs_s hil] at nx
      refine vX11_gather_169 (pk_le (gds P).length i (fun h => by omega) (fun _ => ⟨pk_in i 17 (by omega), ?_⟩) g2.2.1 rfl (by omega) (by omega))
      rw [nI_clamp (n := i) (by omega), nI_1]
      by_cases h0 : net (gds P)[i] P = 0
      · refine ⟨fun _ => ?_, fun z => absurd (i_eq.mpr (by rw [w3, h0]; rfl)) z⟩
        rw [if_pos h0, List.append_nil] at nx
        exact nx τ (by omega) g1 g2 g3 g4 g5
      · refine ⟨fun z => ?_, fun _ => ⟨pk_in i 17 (by omega), ?_⟩⟩
        · rw [z] at w3
          exact absurd w3.symm h0
        rw [if_neg h0] at nx
        rw [p1, show (16640 : Int32) = nI 16640 from rfl, show (40 : Int32) = nI 40 from rfl, pk_mul, nI_add]
        refine m_copy (d := d + 40) (Can_wf hzC.1) p3 (by omega) (by omega) (Or.inl (by omega)) fun τ2 c1 c2 => ?_
        have c3 : mX [] [] 16640 17280 τ τ2 := mX_cw c1 (by omega) (by omega)
        have c4 : gaW σ τ2 := mX_trans g1 (mX_mono c3 (by simp) (by simp))
        have w2 := wgh_fr g2 c3 (by simp) (by simp) (by simp) (by simp) (by omega)
        have e40 : gS τ2 0 40 = nI (ovs P 6).length := by rw [c3.1 0 40 (by simp)]; exact g3
        rw [e40, nI_add, nI_1, nI_clamp (n := (ovs P 6).length + (gvs P i).length) (by omega)]
        refine ⟨pk_in i 17 (by omega), pk_in ((ovs P 6).length + (gvs P i).length) 32 (by omega), ?_⟩
        rw [List.length_append, List.length_singleton] at nx
        have w23 : mX [] [23] 640 640 τ2 (wA τ2 23 ((ovs P 6).length + (gvs P i).length) (gA τ2 29 i)) := mX_wA mX_rfl (by simp) (by omega)
        refine nx _ (by omega) (mX_wA c4 (by decide) (by omega)) (wgh_fr w2 w23 (by simp) (by decide) (by decide) (by decide) (by omega)) e40 (fun j w hw => ?_) (fun j z hz => ?_)
        · have hj := get_lt hw
          rw [wA_arr (a := 22) (by decide), wA_ne (by omega), c3.2.1 22 (by omega) (by simp), c3.2.1 23 (by omega) (by simp)]
          exact g4 j w hw
        · have hj := get_lt hz
          rw [List.length_append, List.length_singleton] at hj
          by_cases e : j = (gvs P i).length
          · subst e
            rw [List.getElem?_append_right (Nat.le_refl _), Nat.sub_self] at hz
            cases hz
            refine ⟨mX_seg w23 (Or.inr (by omega)) c2, ?_⟩
            rw [wA_at, c3.2.1 29 (by omega) (by simp)]
            exact w3
          · rw [List.getElem?_append_left (by omega)] at hz
            obtain ⟨a1, a2⟩ := g5 j z hz
            rw [wA_ne (by omega), c3.2.1 23 (by omega) (by simp)]
            have hzm2 : z ∈ gds P := by
              have := get_mem hz
              unfold gvs at this
              exact List.mem_of_mem_take (List.mem_filter.mp this).1
            have hzl : z.length ≤ 40 := by
              obtain ⟨r, hr, e⟩ := List.mem_map.mp (gds_mem.mp hzm2).1
              rw [← e]; exact (hPm r hr).2.1.1
            exact ⟨mX_seg w23 (Or.inr (by omega)) (cw_seg c1 (Or.inl (by omega)) a1), a2⟩
  -- the variables that count
  have mid : ∀ m a τ, a + m = 6 → gaW σ τ → wgh τ P → gS τ 0 40 = nI (ovs P a).length → (∀ j w, (ovs P a)[j]? = some w → gA τ 22 j = nI w ∧ (gA τ 23 j).toInt = net (node 0 w []) P) → am_X ri am_Lm IX11_gather (d + 42) 103 [some (.ref 0), some (.int (nI (40 * s))), some (.int (nI (40 * t))), some (.int (nI k)), some (.int (nI a)), none] [] τ Q := by
    intro m
    induction m with
    | zero =>
      intro a τ ha g1 g2 g3 g4
      obtain rfl : a = 6 := by omega
      refine vX11_gather_103 (pk_le 6 6 (fun _ => ?_) (fun h => by omega))
      have := last (gds P).length 0 τ (by omega) g1 g2 g3 g4
      simp only [gvs, List.take_zero, List.filter_nil, List.length_nil] at this
      exact this (fun j z hz => by simp at hz)
    | succ m ih =>
      intro a τ ha g1 g2 g3 g4
      have ho := ovs_len P a
      have nx := ih (a + 1)
      rw [ovs_s] at nx
      have w27 := g2.1 a (by omega)
      refine vX11_gather_103 (pk_le 6 a (fun h => by omega) (fun _ => ⟨pk_in a 22 (by omega), ?_⟩))
      rw [nI_clamp (n := a) (by omega), nI_1, g3, nI_clamp (n := (ovs P a).length) (by omega), nI_1]
      by_cases h0 : net (node 0 a []) P = 0
      · refine ⟨fun _ => ?_, fun z => absurd (i_eq.mpr (by rw [w27, h0]; rfl)) z⟩
        rw [if_pos h0, List.append_nil] at nx
        exact nx τ (by omega) g1 g2 g3 g4
      · refine ⟨fun z => ?_, fun _ => ⟨pk_in (ovs P a).length 6 (by omega), pk_in a 22 (by omega), pk_in (ovs P a).length 32 (by omega), ?_⟩⟩
        · rw [z] at w27
          exact absurd w27.symm h0
        rw [if_neg h0, List.length_append, List.length_singleton] at nx
        have w5 : mX [(0, 40)] [22, 23] 640 640 τ (wS (wA (wA τ 22 (ovs P a).length (nI a)) 23 (ovs P a).length (gA τ 27 a)) 0 40 (nI ((ovs P a).length + 1))) := mX_wS (mX_wA (mX_wA mX_rfl (by simp) (by omega)) (by simp) (by omega)) (by simp)
        refine nx _ (by omega) (mX_wS (mX_wA (mX_wA g1 (by decide) (by omega)) (by decide) (by omega)) (by decide)) (wgh_fr g2 w5 (by decide) (by decide) (by decide) (by decide) (by omega)) (wS_at _ _ _ _) (fun j w hw => ?_)
        have hj := get_lt hw
        rw [List.length_append, List.length_singleton] at hj
        rw [gA_wS, wA_arr (a := 22) (by decide)]
        by_cases e : j = (ovs P a).length
        · subst e
          rw [List.getElem?_append_right (Nat.le_refl _), Nat.sub_self] at hw
          cases hw
          rw [wA_at, wA_at]
          exact ⟨rfl, w27⟩
        · rw [List.getElem?_append_left (by omega)] at hw
          rw [wA_ne (by omega), wA_ne (by omega), wA_ne (by omega)]
          exact g4 j w hw
  have pAt : ∀ {L : List Tm} {b : Int} {i : Nat}, i < L.length → (L.map (fun z => (z, b))).take (i + 1) = (L.map (fun z => (z, b))).take i ++ [((L[i]?).getD [], b)] := fun {L b i} hi => by
    rw [take_snoc (by simpa using hi)]
    simp [List.getElem?_eq_getElem hi]
  -- the right side
  have right : ∀ m i τ, i + m = (fl1 k y).length → wgW σ τ → wgh τ ((fl1 k x).map (fun z => (z, (1 : Int))) ++ ((fl1 k y).map (fun z => (z, (-1 : Int)))).take i) → am_X ri am_Lm IX11_gather (d + 42) 65 [some (.ref 0), some (.int (nI (40 * s))), some (.int (nI (40 * t))), some (.int (nI k)), some (.int (nI i)), none] [] τ Q := by
    intro m
    induction m with
    | zero =>
      intro i τ hi g1 g2
      obtain rfl : i = (fl1 k y).length := by omega
      rw [List.take_of_length_le (by simp)] at g2
      have g2' : wgh τ P := by rw [← hPP]; exact g2
      refine vX11_gather_65 (m_partsBy (d := d + 40) hy (seg_fr g1 (by decide) sy) (by omega) (by omega) (pk_le (fl1 k y).length (fl1 k y).length (fun _ => ?_) (fun h => by omega)))
      have w5 : mX [(0, 40)] [] 640 640 τ (wS τ 0 40 (0 : Int32)) := mX_wS mX_rfl (by simp)
      refine mid 6 0 _ (by omega) (mX_wS (mX_mono (mX_fr g1 (by decide)) (by decide) (by decide)) (by decide)) (wgh_fr g2' w5 (by decide) (by simp) (by simp) (by simp) (by omega)) ?_ (fun j w hw => ?_)
      · rw [wS_at]; rfl
      · simp [ovs] at hw
    | succ m ih =>
      intro i τ hi g1 g2
      have hil : i < (fl1 k y).length := by omega
      have sy' := seg_fr g1 (by decide) sy
      refine vX11_gather_65 (m_partsBy (d := d + 40) hy sy' (by omega) (by omega) (pk_le (fl1 k y).length i (fun h => by omega) (fun _ => ?_)))
      refine m_partBy (d := d + 39) hy sy' (by omega) (by omega) (List.getElem?_eq_getElem hil) fun q q1 q2 q3 => ?_
      have hm := fy.2 _ (List.getElem_mem hil)
      rw [nI_1]
      refine m_weigh (d := d) (b := -1) (by decide) ⟨by decide, by decide⟩ (fun r hr => ?_) (by simp; omega) hm.1 hm.2.1 q3 (by omega) g2 fun τ2 k1 k2 => ih (i + 1) τ2 (by omega) (fr_trans g1 k1) ?_
      · have hr2 : r ∈ P := by
          rw [← hPP]
          rcases List.mem_append.mp hr with h | h
          · exact List.mem_append_left _ h
          · exact List.mem_append_right _ (List.mem_of_mem_take h)
        have := hPm r hr2
        exact ⟨this.2.2.1, this.1, this.2.1⟩
      · rw [pAt hil, ← List.append_assoc, List.getElem?_eq_getElem hil]
        exact k2
  -- the left side
  have left : ∀ m i τ, i + m = (fl1 k x).length → wgW σ τ → wgh τ (((fl1 k x).map (fun z => (z, (1 : Int)))).take i) → am_X ri am_Lm IX11_gather (d + 42) 32 [some (.ref 0), some (.int (nI (40 * s))), some (.int (nI (40 * t))), some (.int (nI k)), some (.int (nI i)), none] [] τ Q := by
    intro m
    induction m with
    | zero =>
      intro i τ hi g1 g2
      obtain rfl : i = (fl1 k x).length := by omega
      rw [List.take_of_length_le (by simp)] at g2
      refine vX11_gather_32 (m_partsBy (d := d + 40) hx (seg_fr g1 (by decide) sx) (by omega) (by omega) (pk_le (fl1 k x).length (fl1 k x).length (fun _ => ?_) (fun h => by omega)))
      exact right (fl1 k y).length 0 τ (by omega) g1 (by simpa using g2)
    | succ m ih =>
      intro i τ hi g1 g2
      have hil : i < (fl1 k x).length := by omega
      have sx' := seg_fr g1 (by decide) sx
      refine vX11_gather_32 (m_partsBy (d := d + 40) hx sx' (by omega) (by omega) (pk_le (fl1 k x).length i (fun h => by omega) (fun _ => ?_)))
      refine m_partBy (d := d + 39) hx sx' (by omega) (by omega) (List.getElem?_eq_getElem hil) fun q q1 q2 q3 => ?_
      have hm := fx.2 _ (List.getElem_mem hil)
      rw [nI_1]
      refine m_weigh (d := d) (b := 1) (by decide) ⟨by decide, by decide⟩ (fun r hr => ?_) (by simp; omega) hm.1 hm.2.1 q3 (by omega) g2 fun τ2 k1 k2 => ih (i + 1) τ2 (by omega) (fr_trans g1 k1) ?_
      · have hr2 : r ∈ P := by
          rw [← hPP]
          exact List.mem_append_left _ (List.mem_of_mem_take hr)
        have := hPm r hr2
        exact ⟨this.2.2.1, this.1, this.2.1⟩
      · rw [pAt hil, List.getElem?_eq_getElem hil]
        exact k2
  have first : ∀ m a τ, a + m = 22 → wgW σ τ → (∀ b, b < a → gA τ 27 b = 0) → am_X ri am_Lm IX11_gather (d + 42) 3 [some (.ref 0), some (.int (nI (40 * s))), some (.int (nI (40 * t))), some (.int (nI k)), some (.int (nI a)), none] [] τ Q := by
    intro m
    induction m with
    | zero =>
      intro a τ ha g1 g2
      obtain rfl : a = 22 := by omega
      refine vX11_gather_3 (pk_le 22 22 (fun _ => ?_) (fun h => by omega))
      refine left (fl1 k x).length 0 _ (by omega) (fr_wS g1 (by decide)) ⟨fun b hb => ?_, ?_, fun i z hz => ?_⟩
      · rw [gA_wS, g2 b hb]; simp [net]
      · rw [wS_at]; rfl
      · simp [gds, tAll] at hz
    | succ m ih =>
      intro a τ ha g1 g2
      refine vX11_gather_3 (pk_le 22 a (fun h => by omega) (fun _ => ⟨pk_in a 22 (by omega), ?_⟩))
      rw [nI_clamp (n := a) (by omega), nI_1]
      refine ih (a + 1) _ (by omega) (fr_wA g1 (by decide)) fun b hb => ?_
      by_cases e : b = a
      · subst e; exact wA_at _ _ _ _
      · rw [wA_ne (by omega)]; exact g2 b (by omega)
  exact vX11_gather (first 22 0 σ (by omega) fr_rfl fun b hb => absurd hb (Nat.not_lt_zero _))
end GA
