/-! ===== the reference: solveParts: a free variable ===== -/
section MPP
variable {σ τ υ : am_S} {ns : List Nat} {P t : Tm} {β β' : Nat → Option Tm} {Gs Gs' : List Gl} {F : Option (List (List Tm))} {T G d : Nat}
theorem join_perm {k : Nat} {W W' : List Tm} (hk : k = 3 ∨ k = 4) (h : ∀ z ∈ W, Can z ∧ kd z ≠ k) (hp : W.Perm W') (hne : W ≠ []) : joinT k W = joinT k W' := by
  have h' : ∀ z ∈ W', Can z ∧ kd z ≠ k := fun z hz => h z (hp.mem_iff.mpr hz)
  have hl := hp.length_eq
  rcases Nat.lt_or_ge W.length 2 with h1 | h1
  · match W, hne with
    | [z], _ =>
      match W', hl with
      | [w], _ =>
        have : z ∈ [w] := hp.mem_iff.mp (by simp)
        rw [List.mem_singleton.mp this]
    | z :: w :: r, _ => simp at h1; omega
  · rw [joinT_two hk (fun z hz => (h z hz).1) h1, joinT_two hk (fun z hz => (h' z hz).1) (by omega), flK_self (fun z hz => (h z hz).2), flK_self (fun z hz => (h' z hz).2)]
    congr 1
    exact perm_so (fun y hy => Can_wf (h y (srt_mem.mp hy)).1) (srt_so fun y hy => Can_wf (h y hy).1) (srt_so fun y hy => Can_wf (h' y hy).1) ((srt_perm W).trans (hp.trans (srt_perm W').symm))
theorem join_fl1 {k : Nat} {y : Tm} (hk : k = 3 ∨ k = 4) (hy : Can y) : joinT k (fl1 k y) = y := by
  by_cases e : kd y = k
  · obtain ⟨ey, l, c⟩ := Can_pts hy
    have hl := loc_k l (by omega)
    rw [fl1_eq e, joinT_two hk c hl.2.1, flK_self (fun z hz => by rw [← e]; exact hl.2.2.2 z hz), srt_self hl.2.2.1]
    have := ey
    rw [hl.1, e] at this
    exact this.symm
  · rw [fl1_ne e, joinT_one hk hy]
theorem fl1_join {k : Nat} {W : List Tm} (hk : k = 3 ∨ k = 4) (h : ∀ z ∈ W, Can z ∧ kd z ≠ k) (hne : W ≠ []) : (fl1 k (joinT k W)).Perm W := by
  rcases Nat.lt_or_ge W.length 2 with h1 | h1
  · match W, hne with
    | [z], _ =>
      have hz := h z (by simp)
      rw [joinT_one hk hz.1, fl1_ne hz.2]
    | z :: w :: r, _ => simp at h1; omega
  · rw [joinT_two hk (fun z hz => (h z hz).1) h1, flK_self (fun z hz => (h z hz).2), fl1_eq (kd_node _ _ _), pts_node (fun y hy => Can_wf (h y (srt_mem.mp hy)).1)]
    exact srt_perm W
theorem vb_flat0 : ∀ {L : List Tm}, (∀ y ∈ L, vb y = 0) → vb L.flatten = 0
  | [], _ => rfl
  | y :: L, h => by
    rw [List.flatten_cons, vb_app, h y List.mem_cons_self, vb_flat0 fun z hz => h z (List.mem_cons_of_mem _ hz)]
    rfl
theorem pts_ground {Y : Tm} (hY : Can Y) (hv : vb Y = 0) : ∀ z ∈ pts Y, vb z = 0 := by
  have hz : vb (pts Y).flatten = 0 := by
    have := hv
    rw [(Can_pts hY).1, vb_node] at this
    exact (Nat.or_eq_zero_iff.mp this).2
  exact vb_flat hz
theorem pck_ok {k s : Nat} {Y : Tm} (hk : k = 3 ∨ k = 4) (hY : Can Y) (hf : fits Y) (hv : vb Y = 0) (hkY : kd Y = k) (hne : pck (pts Y) s ≠ []) : (∀ z ∈ pck (pts Y) s, Can z ∧ kd z ≠ k ∧ fits z) ∧ Can (joinT k (pck (pts Y) s)) ∧ fits (joinT k (pck (pts Y) s)) ∧ vb (joinT k (pck (pts Y) s)) = 0 := by
  obtain ⟨eY, l, c⟩ := Can_pts hY
  have hl := loc_k l (by omega)
  have hfp := fits_pts hY hf
  have hmem : ∀ z ∈ pck (pts Y) s, z ∈ pts Y := fun z hz => by
    obtain ⟨j, j1, _⟩ := selF_mem.mp hz
    exact get_mem j1
  have hW : ∀ z ∈ pck (pts Y) s, Can z ∧ kd z ≠ k := fun z hz => ⟨c z (hmem z hz), by rw [← hkY]; exact hl.2.2.2 z (hmem z hz)⟩
  have hlen := selF_len (fun j => s.testBit j) (pts Y) 0
  have hfl : (pck (pts Y) s).flatten.length ≤ (pts Y).flatten.length := by
    have h1 := perm_flen (unm_set (L := pts Y) (m := 0) (s := s) (by simp))
    rw [unm_0, List.flatten_append, List.length_append] at h1
    omega
  have hYl := (wf_pts (Can_wf hY)).2.2
  have hY40 := hf.1
  refine ⟨fun z hz => ⟨(hW z hz).1, (hW z hz).2, hfp.2 z (hmem z hz)⟩, Can_join hk (fun z hz => (hW z hz).1) hne, ?_, ?_⟩
  · rcases Nat.lt_or_ge (pck (pts Y) s).length 2 with h1 | h1
    · match hq : pck (pts Y) s, hne with
      | [z], _ =>
        have hz : z ∈ pck (pts Y) s := by rw [hq]; simp
        rw [joinT_one hk (hW z hz).1]
        exact hfp.2 z (hmem z hz)
      | z :: w :: r, _ => rw [hq] at h1; simp at h1; omega
    · rw [joinT_two hk (fun z hz => (hW z hz).1) h1, flK_self (fun z hz => (hW z hz).2)]
      refine fits_of ?_ ?_ (fun y hy => hfp.2 y (hmem y (srt_mem.mp hy)))
      · rw [srt_len]
        have : (pck (pts Y) s).length ≤ (pts Y).length := hlen
        omega
      · rw [node_len, perm_flen (srt_perm _)]
        omega
  · have hg := pts_ground hY hv
    rcases Nat.lt_or_ge (pck (pts Y) s).length 2 with h1 | h1
    · match hq : pck (pts Y) s, hne with
      | [z], _ =>
        have hz : z ∈ pck (pts Y) s := by rw [hq]; simp
        rw [joinT_one hk (hW z hz).1]
        exact hg z (hmem z hz)
      | z :: w :: r, _ => rw [hq] at h1; simp at h1; omega
    · rw [joinT_two hk (fun z hz => (hW z hz).1) h1, flK_self (fun z hz => (hW z hz).2), vb_node, if_neg (by omega), vb_flat0 fun y hy => hg y (hmem y (srt_mem.mp hy))]
      rfl
/-- one term alone stays what it is, and where -/
theorem m_joined1 {p k : Nat} {x : Tm} {Q : Int32 → am_S → Prop} (hx : Can x) (hkd : kd x ≠ k) (hk : k ≤ 4) (hs : seg σ p x) (hp : p < 70000) (h5 : gA σ 5 0 = nI p) (h7 : gS σ 0 7 = nI 1) (H : ∀ τ, (∀ n k, (n, k) ≠ (0, 7) → gS τ n k = gS σ n k) → (∀ n, n ≠ 5 → gA τ n = gA σ n) → gS τ 0 7 = nI 0 → τ.2 = σ.2 → Q (nI p) τ) : am_K ri am_Lm IX11_joined (d + 2) [.ref 0, .int (nI k), .int (nI 0)] σ Q := by
  have r1 := (seg_kd (Can_wf hx) hs).1
  have kx := Can_kd hx
  refine vX11_joined ?_
  rw [h7]
  refine vX11_joined_8 (pk_le 1 0 (fun h => by omega) (fun _ => ⟨pk_in 0 20000 (by omega), ?_⟩))
  rw [nI_clamp (n := 0) (by omega), h5, nI_clamp (n := p) (by omega), r1, nI_1]
  refine ⟨pk_in p 70000 hp, fun e => absurd ((nI_eq (by omega) (by omega)).mp e) hkd, fun _ => m_put (d := d) h7 (by omega) ?_⟩
  generalize hσ1 : wS (wA σ 5 1 (nI p)) 0 7 (nI (1 + 1)) = σ1
  have t7 : gS σ1 0 7 = nI 2 := by rw [← hσ1, wS_at]
  have t5 : gA σ1 5 1 = nI p := by rw [← hσ1, gA_wS, wA_at]
  refine vX11_joined_8 (pk_le 1 1 (fun _ => ?_) (fun h => by omega))
  rw [t7, n_sub (by omega) (by omega)]
  refine vX11_joined_93 (pk_le 1 0 (fun h => by omega) (fun _ => ?_))
  rw [show nI 1 + (0 : Int32) = nI 1 from nI_add 1 0, show nI 0 + (0 : Int32) = nI 0 from nI_add 0 0, nI_clamp (n := 1) (by omega), t5]
  refine ⟨pk_in 1 20000 (by omega), ?_⟩
  refine vX11_joined_117 (pk_le 0 0 (fun _ => ⟨pk_in 0 20000 (by omega), ?_⟩) (fun h => by omega))
  rw [nI_clamp (n := 0) (by omega)]
  refine vX11_joined_93 ⟨fun _ => ⟨fun z => absurd rfl z, fun _ => ⟨pk_in 0 20000 (by omega), ?_⟩⟩, fun z => absurd (by decide) z⟩
  rw [nI_clamp (n := 0) (by omega), wA_at]
  refine H _ (fun n k z => ?_) (fun n hn => ?_) (wS_at _ _ _ _) (by rw [← hσ1]; rfl)
  · rw [wS_ne (fun e => z (by rw [e.1, e.2])), wS_ne (fun e => z (by rw [e.1, e.2])), gS_wA, ← hσ1, wS_ne (fun e => z (by rw [e.1, e.2]))]
    rfl
  · rw [gA_wS, gA_wS, wA_arr hn, ← hσ1, gA_wS, wA_arr hn]
/-- the last part of a pattern's sum is no variable: it is one of those that are left -/
theorem sat_part {θ : Nat → Tm} {k m : Nat} {L Yp : List Tm} {q : Tm} (hq : Can q) (hq0 : kd q ≠ 0) (hqk : kd q ≠ k) (hθ : ∀ v, v < 22 → Can (θ v)) : satG θ (Sum.inr (k, L ++ [q], unm Yp m)) ↔ ∃ i, i < Yp.length ∧ m.testBit i = false ∧ (i = 0 ∨ m.testBit (i - 1) = true ∨ Yp[i - 1]? ≠ Yp[i]?) ∧ (Yp[i]? = some (sub θ q) ∧ satG θ (Sum.inr (k, L, unm Yp (m ||| 2 ^ i)))) := by
  show (flK k ((L ++ [q]).map (sub θ))).Perm (unm Yp m) ↔ ∃ i, i < Yp.length ∧ m.testBit i = false ∧ (i = 0 ∨ m.testBit (i - 1) = true ∨ Yp[i - 1]? ≠ Yp[i]?) ∧ (Yp[i]? = some (sub θ q) ∧ (flK k (L.map (sub θ))).Perm (unm Yp (m ||| 2 ^ i)))
  have e : flK k ((L ++ [q]).map (sub θ)) = flK k (L.map (sub θ)) ++ [sub θ q] := by
    rw [List.map_append, List.map_singleton, flK_app, flK_one, fl1_ne (by rw [sub_kind hq hq0 hθ]; exact hqk)]
  rw [e]
  constructor
  · intro h
    obtain ⟨i, i1, i2, i3⟩ := unm_first (h.mem_iff.mp (by simp) : sub θ q ∈ unm Yp m)
    have hi := get_lt i1
    refine ⟨i, hi, i2, i3, i1, ?_⟩
    have hu := unm_one hi i2
    have ei : Yp[i] = sub θ q := by
      rw [List.getElem?_eq_getElem hi] at i1
      exact Option.some.inj i1
    rw [ei] at hu
    have := (List.perm_append_comm.trans h).trans hu
    exact List.Perm.cons_inv (a := sub θ q) (by simpa using this)
  · rintro ⟨i, hi, i2, _, i1, h⟩
    have hu := unm_one hi i2
    have ei : Yp[i] = sub θ q := by
      rw [List.getElem?_eq_getElem hi] at i1
      exact Option.some.inj i1
    rw [ei] at hu
    refine List.perm_append_comm.trans (List.Perm.trans ?_ hu.symm)
    simpa using h.cons (sub θ q)
theorem sat_varP {θ : Nat → Tm} {k : Nat} {L R : List Tm} {q : Tm} (hq : Can q) (hq0 : kd q = 0) : satG θ (Sum.inr (k, L ++ [q], R)) ↔ (fl1 k (θ (nm q)) ++ flK k (L.map (sub θ))).Perm R := by
  show (flK k ((L ++ [q]).map (sub θ))).Perm R ↔ _
  have e : flK k ((L ++ [q]).map (sub θ)) = flK k (L.map (sub θ)) ++ fl1 k (θ (nm q)) := by
    rw [List.map_append, List.map_singleton, flK_app, flK_one, sub_eq hq, if_pos hq0]
  rw [e]
  exact ⟨fun h => List.perm_append_comm.trans h, fun h => List.perm_append_comm.trans h⟩
theorem selF_app (f : Nat → Bool) : ∀ (A B : List Tm) (i : Nat), selF f i (A ++ B) = selF f i A ++ selF f (i + A.length) B
  | [], B, i => by simp [selF]
  | y :: A, B, i => by
    simp only [List.cons_append, selF, selF_app f A B (i + 1), List.length_cons]
    rw [show i + 1 + A.length = i + (A.length + 1) by omega]
    split <;> simp
theorem pck_snoc {L : List Tm} {s c : Nat} (hc : c < L.length) : pck (L.take (c + 1)) s = pck (L.take c) s ++ (if s.testBit c then [L[c]] else []) := by
  unfold pck
  rw [take_snoc hc, selF_app]
  have : 0 + (L.take c).length = c := by simp; omega
  rw [this]
  simp only [selF]
/-- the chosen parts are joined -/
theorem m_collect {n i0 k m p s i j pq sb G : Nat} {Y : Tm} {g26 : Int32} {Q : Unit → am_S → Prop} (hY : okT σ s Y) (hk34 : k = 3 ∨ k = 4) (hkY : kd Y = k) (hsb1 : 1 ≤ sb) (hsbl : sb < 2 ^ (pts Y).length) (h4 : gS σ 0 4 = nI T) (h5 : gS σ 0 5 = nI 0) (h7 : gS σ 0 7 = nI 0) (hT1 : 17280 ≤ T) (hT2 : T ≤ 17500)
    (H : ∀ (ω : am_S) (pv T' : Nat), (∀ n k, (n, k) ∉ [(0, 4), (0, 5), (0, 7)] → gS ω n k = gS σ n k) → gS ω 0 4 = nI T' → gS ω 0 5 = nI 0 → gS ω 0 7 = nI 0 → (∀ n, 6 ≤ n → gA ω n = gA σ n) → (∀ n, n < 5 → ∀ i, i < T → gA ω n i = gA σ n i) → ω.2 = σ.2 → T ≤ T' → T' ≤ T + 41 → seg ω pv (joinT k (pck (pts Y) sb)) → (pv + (joinT k (pck (pts Y) sb)).length ≤ 640 ∨ (17280 ≤ pv ∧ pv + (joinT k (pck (pts Y) sb)).length ≤ T')) → (vp_in (nI i) 4) ∧ (vp_in (nI i0) 4000) ∧ am_K ri am_Lm IX11_goal (d + 46) [.ref 0, .int (nI p), .int (nI s), .int (nI j), .int (nI m ||| nI sb), .int (gA ω 16 (nI i0).toNatClampNeg)] (wA ω 10 (nI i).toNatClampNeg (nI pv)) (fun r2 σ2 => am_K ru am_Lm IX11_work (d + 46) [.ref 0, .int r2] σ2 (fun _ σ3 => (vp_in (nI i) 4) ∧ am_X ru am_Lm IX11_solveParts (d + 47) 249 [some (.ref 0), some (.int (nI i0)), some (.int (nI p)), some (.int (nI s)), some (.int (nI m)), some (.int (nI (pts Y).length)), some (.int (nI j)), some (.int g26), some (.int (nI pq)), some (.int (nI i)), some (.int (nI sb + (1 : Int32))), none, none, none] [] (wS (wA (wS σ3 0 26 g26) 10 (nI i).toNatClampNeg (-1 : Int32)) 0 4 (nI T)) Q))) :
    am_X ru am_Lm IX11_solveParts (d + 47) 300 [some (.ref 0), some (.int (nI i0)), some (.int (nI p)), some (.int (nI s)), some (.int (nI m)), some (.int (nI (pts Y).length)), some (.int (nI j)), some (.int g26), some (.int (nI pq)), some (.int (nI i)), some (.int (nI sb)), some (.int (nI T)), some (.int (nI 0)), some (.int (0 : Int32))] [] σ Q := by
  obtain ⟨hYC, hYf, hYv, hYs, hYp⟩ := id hY
  have hYw := Can_wf hYC
  have pY := wf_pos hYw
  have p8Y := (fits_pts hYC hYf).1
  have p256 : 2 ^ (pts Y).length ≤ 2 ^ 8 := Nat.pow_le_pow_right (by decide) p8Y
  have lkY := loc_k (Can_pts hYC).2.1 (by omega)
  have hne : pck (pts Y) sb ≠ [] := fun e => by
    obtain ⟨c, hc⟩ := Nat.exists_testBit_of_ne_zero (show sb ≠ 0 by omega)
    have hcl : c < (pts Y).length := by
      refine Nat.lt_of_not_le fun h => ?_
      rw [tb_hi hsbl h] at hc; cases hc
    have : (pts Y)[c] ∈ pck (pts Y) sb := selF_mem.mpr ⟨c, List.getElem?_eq_getElem hcl, by rw [Nat.zero_add]; exact hc⟩
    rw [e] at this
    simp at this
  have hpk := pck_ok hk34 hYC hYf hYv hkY hne
  have hj40 := hpk.2.2.1.1
  have loop : ∀ r c ω, c + r = (pts Y).length → (∀ n k, (n, k) ≠ (0, 7) → gS ω n k = gS σ n k) → (∀ n, n ≠ 5 → gA ω n = gA σ n) → ω.2 = σ.2 → gS ω 0 7 = nI (pck ((pts Y).take c) sb).length → ent ω 0 0 640 40 (pck ((pts Y).take c) sb) → am_X ru am_Lm IX11_solveParts (d + 47) 300 [some (.ref 0), some (.int (nI i0)), some (.int (nI p)), some (.int (nI s)), some (.int (nI m)), some (.int (nI (pts Y).length)), some (.int (nI j)), some (.int g26), some (.int (nI pq)), some (.int (nI i)), some (.int (nI sb)), some (.int (nI T)), some (.int (nI 0)), some (.int (nI c))] [] ω Q := by
    intro r
    induction r with
    | zero =>
      intro c ω hc w1 w2 w3 w4 w5
      obtain rfl : c = (pts Y).length := by omega
      rw [List.take_length] at w4 w5
      have sY : seg ω s Y := seg_move (fun a _ h4 i hi => by rw [w2 a (by omega)]) hYs
      have y1 := (seg_kd hYw sY).1
      refine vX11_solveParts_300 (pk_le (pts Y).length (pts Y).length (fun _ => ⟨pk_in s 70000 (by omega), ?_⟩) (fun h => by omega))
      rw [nI_clamp (n := s) (by omega), y1, hkY]
      rcases Nat.lt_or_ge (pck (pts Y) sb).length 2 with h1 | h1
      · -- one alone
        match hq : pck (pts Y) sb, hne with
        | [z], _ =>
          have hz := hpk.1 z (by rw [hq]; simp)
          rw [hq] at w4 w5
          obtain ⟨pz, z1, z2, z3, z4, _⟩ := w5 0 z rfl
          rw [show d + 46 = (d + 44) + 2 by omega]
          refine m_joined1 (d := d + 44) hz.1 hz.2.1 (by omega) z3 (by have := wf_pos (Can_wf hz.1); omega) z1 w4 fun ω2 x1 x2 x3 x4 => ?_
          have ej : joinT k (pck (pts Y) sb) = z := by rw [hq, joinT_one hk34 hz.1]
          rw [show d + 44 + 2 = d + 46 by omega]
          refine H ω2 pz T (fun n k hn => ?_) ?_ ?_ x3 (fun n hn => ?_) (fun n hn i _ => ?_) (x4.trans w3) (Nat.le_refl _) (by omega) (by rw [ej]; exact seg_move (fun a _ h4 i hi => by rw [x2 a (by omega)]) z3) (by rw [ej]; exact Or.inl z4)
          · rw [x1 n k (fun e => hn (by rw [e]; simp)), w1 n k (fun e => hn (by rw [e]; simp))]
          · rw [x1 0 4 (by decide), w1 0 4 (by decide)]; exact h4
          · rw [x1 0 5 (by decide), w1 0 5 (by decide)]; exact h5
          · rw [x2 n (by omega), w2 n (by omega)]
          · rw [x2 n (by omega), w2 n (by omega)]
        | z :: w :: r, _ => rw [hq] at h1; simp at h1; omega
      · have hself : flK k (pck (pts Y) sb) = pck (pts Y) sb := flK_self fun z hz => (hpk.1 z hz).2.1
        have hlen := selF_len (fun j => sb.testBit j) (pts Y) 0
        have hlen' : (pck (pts Y) sb).length ≤ (pts Y).length := hlen
        rw [show d + 46 = (d + 3) + 40 + 3 by omega]
        refine m_joined (lo := 0) (n := 40) (b := 0) (d := d + 3) (f := 0) hk34 hne (ent_T (T' := T) w5 (by omega)) (by rw [hself]; omega) (by rw [Nat.zero_add]; exact w4) (by rw [w1 0 4 (by decide)]; exact h4) (by omega) (by omega) (by rw [w1 0 5 (by decide)]; exact h5) (by omega) fun v ω2 x1 x2 x3 => ?_
        rw [show d + 3 + 40 + 3 = d + 46 by omega]
        rcases x3 with ⟨_, x5, T', pv, t1, t2, t3, t4, t5, t6, t7, _, t8⟩ | ⟨x3, _⟩
        · rw [t5]
          have epv : pv = T := by rcases t8 with h | h; exact h; omega
          refine H ω2 pv T' (fun n k hn => ?_) t1 x5 x2 (fun n hn => ?_) (fun n hn i hi => ?_) (x1.2.2.2.2.2.2.2.trans w3) t2 (by omega) t6 (Or.inr ⟨by omega, t7⟩)
          · rw [x1.1 n k hn, w1 n k (fun e => hn (by rw [e]; simp))]
          · rw [x1.2.1 n (by simp; omega), w2 n (by omega)]
          · rcases Nat.eq_zero_or_pos n with e | e
            · subst e
              rw [x1.2.1 0 (by simp), w2 0 (by omega)]
            · rw [x1.2.2.1 n e (by omega) i hi, w2 n (by omega)]
        · omega
    | succ r ih =>
      intro c ω hc w1 w2 w3 w4 w5
      have hcl : c < (pts Y).length := by omega
      have nx := ih (c + 1)
      rw [pck_snoc hcl] at nx
      have sY : seg ω s Y := seg_move (fun a _ h4 i hi => by rw [w2 a (by omega)]) hYs
      refine vX11_solveParts_300 (pk_le (pts Y).length c (fun h => by omega) (fun _ => ?_))
      rw [nI_1, m_bit (by omega) (by omega)]
      by_cases hb : sb.testBit c = true
      · refine ⟨fun z => absurd hb z, fun _ => ?_⟩
        rw [if_pos hb] at nx
        have o1 := off_s hcl
        have o2 := off_le (pts Y) (c + 1)
        have o3 := (wf_pts hYw).2.2
        have hz := List.getElem_mem hcl
        have hzC := (Can_pts hYC).2.2 _ hz
        have hzf := (fits_pts hYC hYf).2 _ hz
        have hpl := selF_len (fun j => sb.testBit j) ((pts Y).take c) 0
        have hpl' : (pck ((pts Y).take c) sb).length ≤ ((pts Y).take c).length := hpl
        rw [List.length_take] at hpl'
        refine m_partAt (d := d + 45) hYw sY (by omega) (by omega) (m_put (d := d + 45) w4 (by omega) ?_)
        have ep := ent_put (w := nI ((pck ((pts Y).take c) sb).length + 1)) w5 (canF_mono hzf.1 (canF_len _ hzC)) (seg_pts hYw sY c _ (List.getElem?_eq_getElem hcl)) (by omega) (Nat.zero_le _)
        rw [Nat.zero_add] at ep
        refine nx _ (by omega) (fun n k hn => ?_) (fun n hn => ?_) w3 ?_ ep
        · rw [wS_ne (fun e => hn (by rw [e.1, e.2])), gS_wA]; exact w1 n k hn
        · rw [gA_wS, wA_arr hn]; exact w2 n hn
        · rw [wS_at, List.length_append, List.length_singleton]
      · refine ⟨fun _ => ?_, fun z => absurd z hb⟩
        rw [if_neg hb, List.append_nil] at nx
        exact nx ω (by omega) w1 w2 w3 w4 w5
  exact loop (pts Y).length 0 σ (by omega) (fun _ _ _ => rfl) (fun _ _ => rfl) rfl (by simpa [pck, selF] using h7) (fun i y hy => by simp [pck, selF] at hy)
/-- the last part is a variable that is free -/
theorem m_free {n i0 k j m p s i pq : Nat} {X Y q : Tm} {Q : Unit → am_S → Prop} (hW : WS P t n) (hi0 : i0 < G) (hX : okP (nms (vb P)) σ p X) (hY : okT σ s Y) (hk34 : k = 3 ∨ k = 4) (hkX : kd X = k) (hkY : kd Y = k) (hm : m < 2 ^ (pts Y).length) (hgr : gIn (nms (vb P)) σ Gs (gA σ 16 i0) i0) (hjX : j ≤ (pts X).length) (hmu : 3 * ((pts X).take j).flatten.length + 1 + mus Gs ≤ n) (he : env (nms (vb P)) β T G σ) (hget : (nms (vb P))[i]? = some (nm q)) (qC : Can q) (hq0 : kd q = 0) (b1 : β i = none) (hgood : ∀ M, SolG (nms (vb P)) (Sum.inr (k, (pts X).take j ++ [q], unm (pts Y) m) :: Gs) β M → isM P t M) (hpre : preM P t F σ) (hG : G + 2 * (3 * ((pts X).take j).flatten.length + 1 + mus Gs) + 1 ≤ 2990) (H : ∀ τ, kW T G σ τ → resM (nms (vb P)) P t F (Sum.inr (k, (pts X).take j ++ [q], unm (pts Y) m) :: Gs) β τ → Q () τ) : am_X ru am_Lm IX11_solveParts (d + 3 * n + 47) 249 [some (.ref 0), some (.int (nI i0)), some (.int (nI p)), some (.int (nI s)), some (.int (nI m)), some (.int (nI (pts Y).length)), some (.int (nI j)), some (.int (nI G)), some (.int (nI pq)), some (.int (nI i)), some (.int (1 : Int32)), none, none, none] [] σ Q := by
  obtain ⟨hXC, hXf, hXs, hXp, hXv⟩ := id hX
  obtain ⟨hYC, hYf, hYv, hYs, hYp⟩ := id hY
  have hYw := Can_wf hYC
  have pY := wf_pos hYw
  have p8X := (fits_pts hXC hXf).1
  have p8Y := (fits_pts hYC hYf).1
  have h26 := he.2.2.2.2.2.2.2.1
  have v0 : vp_in (nI i0) 4000 := pk_in i0 4000 (by omega)
  have p256 : 2 ^ (pts Y).length ≤ 2 ^ 8 := Nat.pow_le_pow_right (by decide) p8Y
  have ns4 := he.1.2.1
  have hil := get_lt hget
  have v4 : vp_in (nI i) 4 := pk_in i 4 (by omega)
  have b2 : gA σ 10 i = -1 := by
    rcases he.2.2.1 i hil with ⟨_, b⟩ | ⟨y, py, b, _⟩
    · exact b
    · rw [b1] at b; cases b
  have asgi : ∀ {M y}, M[i]? = some y → asg (nms (vb P)) M (nm q) = y := fun hy => asg_in he.2.1 hget hy
  let good : Nat → Prop := fun sb => 1 ≤ sb ∧ sb &&& m = 0 ∧ lowS (pts Y) sb m
  let br : Nat → List Tm → Prop := fun sb M => SolG (nms (vb P)) (Sum.inr (k, (pts X).take j, unm (pts Y) (m ||| sb)) :: Gs) (up β i (joinT k (pck (pts Y) sb))) M
  have pckne : ∀ sb, 1 ≤ sb → sb < 2 ^ (pts Y).length → pck (pts Y) sb ≠ [] := fun sb h1 h2 e => by
    obtain ⟨c, hc⟩ := Nat.exists_testBit_of_ne_zero (show sb ≠ 0 by omega)
    have hcl : c < (pts Y).length := by
      refine Nat.lt_of_not_le fun h => ?_
      rw [tb_hi h2 h] at hc; cases hc
    have : (pts Y)[c] ∈ pck (pts Y) sb := selF_mem.mpr ⟨c, List.getElem?_eq_getElem hcl, by rw [Nat.zero_add]; exact hc⟩
    rw [e] at this
    simp at this
  have brsol : ∀ sb M, 1 ≤ sb → sb < 2 ^ (pts Y).length → sb &&& m = 0 → br sb M → SolG (nms (vb P)) (Sum.inr (k, (pts X).take j ++ [q], unm (pts Y) m) :: Gs) β M := fun sb M h1 h2 h3 hM => by
    have hM2 := (SolG_up hil b1).mp hM
    have hM3 := SolG_cons.mp hM2.1
    have hpk := pck_ok hk34 hYC hYf hYv hkY (pckne sb h1 h2)
    refine SolG_cons.mpr ⟨hM3.1, ?_⟩
    rw [sat_varP qC hq0, asgi hM2.2]
    have e1 := fl1_join hk34 (fun z hz => ⟨(hpk.1 z hz).1, (hpk.1 z hz).2.1⟩) (pckne sb h1 h2)
    have e2 : (flK k (((pts X).take j).map (sub (asg (nms (vb P)) M)))).Perm (unm (pts Y) (m ||| sb)) := hM3.2
    exact (e1.append e2).trans (unm_set h3).symm
  have solbr : ∀ M, SolG (nms (vb P)) (Sum.inr (k, (pts X).take j ++ [q], unm (pts Y) m) :: Gs) β M → ∃ sb, sb < 2 ^ (pts Y).length ∧ good sb ∧ br sb M := fun M hM => by
    have hM2 := SolG_cons.mp hM
    have hiM : i < M.length := by rw [hM2.1.1]; exact hil
    have hy := List.getElem?_eq_getElem hiM
    have hgy := hM2.1.2.1 _ (List.getElem_mem hiM)
    have hs := hM2.2
    rw [sat_varP qC hq0, asgi hy] at hs
    obtain ⟨sb, s1, s2, s3, s4⟩ := unm_low hs.symm
    have hfp := fl1_pos hk34 hgy.1
    have hsb1 : 1 ≤ sb := by
      refine Nat.pos_of_ne_zero fun e => ?_
      rw [e] at s3
      have e0 : pck (pts Y) 0 = [] := selF_none fun j _ _ => by simp
      rw [e0] at s3
      have := s3.length_eq
      simp at this
      omega
    have hpk := pck_ok hk34 hYC hYf hYv hkY (pckne sb hsb1 s2)
    have ey : joinT k (pck (pts Y) sb) = M[i] := by
      rw [join_perm hk34 (fun z hz => ⟨(hpk.1 z hz).1, (hpk.1 z hz).2.1⟩) s3 (pckne sb hsb1 s2), join_fl1 hk34 hgy.1]
    refine ⟨sb, s2, ⟨hsb1, s1, s4⟩, (SolG_up hil b1).mpr ⟨SolG_cons.mpr ⟨hM2.1, ?_⟩, by rw [ey]; exact hy⟩⟩
    show (flK k (((pts X).take j).map (sub (asg (nms (vb P)) M)))).Perm (unm (pts Y) (m ||| sb))
    have h2 := hs.trans (unm_set (L := pts Y) s1)
    have h3 := s3.append_right (unm (pts Y) (m ||| sb))
    exact (List.perm_append_left_iff _).mp (h2.trans h3)
  -- what has been found so far
  let inv : Nat → Option (List (List Tm)) → Prop := fun sb F1 => F1 = none ∨ ∃ E E1, F = some E ∧ F1 = some E1 ∧ ∀ M, M ∈ E1 ↔ M ∈ E ∨ ∃ c, c < sb ∧ good c ∧ br c M
  have loop : ∀ r sb τ F1, sb + r = 2 ^ (pts Y).length → 1 ≤ sb → kW T G σ τ → preM P t F1 τ → inv sb F1 → am_X ru am_Lm IX11_solveParts (d + 3 * n + 47) 249 [some (.ref 0), some (.int (nI i0)), some (.int (nI p)), some (.int (nI s)), some (.int (nI m)), some (.int (nI (pts Y).length)), some (.int (nI j)), some (.int (nI G)), some (.int (nI pq)), some (.int (nI i)), some (.int (nI sb)), none, none, none] [] τ Q := by
    intro r
    induction r with
    | zero =>
      intro sb τ F1 hsb hsb1 w1 w2 w3
      obtain rfl : sb = 2 ^ (pts Y).length := by omega
      refine vX11_solveParts_249 ?_
      rw [nx_1shl (by omega)]
      refine pk_le (2 ^ (pts Y).length) (2 ^ (pts Y).length) (fun _ => H τ w1 ?_) (fun h => by omega)
      rcases w3 with w3 | ⟨E, E1, x1, x2, x3⟩
      · rw [w3] at w2; exact Or.inl w2
      · rw [x2] at w2
        refine Or.inr ⟨E, E1, x1, w2, fun M => (x3 M).trans ⟨fun h => ?_, fun h => ?_⟩⟩
        · rcases h with h | ⟨c, c1, c2, c3⟩
          · exact Or.inl h
          · exact Or.inr (brsol c M c2.1 c1 c2.2.1 c3)
        · rcases h with h | h
          · exact Or.inl h
          · exact Or.inr (solbr M h)
    | succ r ih =>
      intro sb τ F1 hsb hsb1 w1 w2 w3
      have k16 : gA τ 16 i0 = gA σ 16 i0 := w1.2.2.2.1 16 (by omega) (by omega) i0 hi0
      have k26 : gS τ 0 26 = nI G := by rw [w1.1 0 26 (by decide)]; exact h26
      have kenv := env_kW he w1
      have kX := okP_kW hX w1
      have kY := okT_kW hY w1
      have kg := gIn_kW (gIn_le hgr (Nat.le_of_lt hi0)) w1
      have hsbl : sb < 2 ^ (pts Y).length := by omega
      have hand : sb &&& m < 2 ^ 31 := Nat.lt_of_le_of_lt Nat.and_le_left (by omega)
      have skip : ¬ good sb → am_X ru am_Lm IX11_solveParts (d + 3 * n + 47) 249 [some (.ref 0), some (.int (nI i0)), some (.int (nI p)), some (.int (nI s)), some (.int (nI m)), some (.int (nI (pts Y).length)), some (.int (nI j)), some (.int (nI G)), some (.int (nI pq)), some (.int (nI i)), some (.int (nI (sb + 1))), none, none, none] [] τ Q := fun hng => ih (sb + 1) τ F1 (by omega) (by omega) w1 w2 (by
        rcases w3 with w3 | ⟨E, E1, x1, x2, x3⟩
        · exact Or.inl w3
        · refine Or.inr ⟨E, E1, x1, x2, fun M => (x3 M).trans ⟨fun h => ?_, fun h => ?_⟩⟩
          · rcases h with h | ⟨c, c1, c2⟩
            · exact Or.inl h
            · exact Or.inr ⟨c, by omega, c2⟩
          · rcases h with h | ⟨c, c1, c2⟩
            · exact Or.inl h
            · by_cases e : c = sb
              · rw [e] at c2; exact absurd c2.1 hng
              · exact Or.inr ⟨c, by omega, c2⟩)
      refine vX11_solveParts_249 ?_
      rw [nx_1shl (by omega), nx_and, nI_1]
      refine pk_le (2 ^ (pts Y).length) sb (fun h => by omega) (fun _ => ⟨fun hmany => H τ w1 ?_, fun hnm => ⟨fun hna => skip fun g => hna (by rw [g.2.1]; rfl), fun hna => ?_⟩⟩)
      · rcases w3 with w3 | ⟨E, E1, x1, x2, x3⟩
        · rw [w3] at w2; exact Or.inl w2
        · rw [x2] at w2; exact absurd w2.1 hmany
      have hnd0 : sb &&& m = 0 := (nx_z hand).mp hna
      rw [show d + 3 * n + 46 = (d + 3 * n + 5) + 41 by omega]
      refine m_isLow (d := d + 3 * n + 5) hYC hYf kY.2.2.2.1 (by omega) (by omega) (by omega) (fun hlow => ⟨fun z => absurd z (by decide), fun _ => ?_⟩) (fun hlow => ⟨fun _ => skip fun g => hlow g.2.2, fun z => absurd rfl z⟩)
      rw [show (d + 3 * n + 5) + 41 + 1 = (d + 3 * n) + 47 by omega]
      have hgd : good sb := ⟨hsb1, hnd0, hlow⟩
      have hpk := pck_ok hk34 hYC hYf hYv hkY (pckne sb hsb1 hsbl)
      obtain ⟨e1, e2, e3, e3b, e4, e5, e6, e7, e8, e9⟩ := id kenv
      rw [e4, e6]
      refine m_collect (d := d + 3 * n) (G := G) (n := n) kY hk34 hkY hsb1 hsbl e4 e5 e6 e8 (by omega) fun ω pv T' o1 o4 o5 o7 oA oM o2 hT1 hT2 sv rv => ⟨v4, v0, ?_⟩
      rw [nI_clamp (n := i0) (by omega), nI_clamp (n := i) (by omega), nx_or, oA 16 (by omega), k16, nI_1]
      have b10 : gA ω 10 i = -1 := by
        rw [oA 10 (by omega), w1.2.2.1 i (by omega)]
        exact b2
      have sg : ∀ {q : Nat} {w : Tm}, seg ω q w → seg (wA ω 10 i (nI pv)) q w := fun h => seg_move (fun a _ h4 i hi => by rw [wA_arr (by omega)]) h
      have sgM : ∀ {q : Nat} {w : Tm}, q + w.length ≤ T → seg τ q w → seg (wA ω 10 i (nI pv)) q w := fun hq h => seg_move (fun a _ h4 i hi => by rw [wA_arr (by omega), oM a (by omega) _ (by omega)]) h
      have hub := unb_up (y := joinT k (pck (pts Y) sb)) hil b1
      have env1 : env (nms (vb P)) (up β i (joinT k (pck (pts Y) sb))) T' G (wA ω 10 i (nI pv)) := by
        refine ⟨⟨by rw [gS_wA, o1 0 17 (by decide)]; exact e1.1, e1.2.1, e1.2.2.1, fun j a ha => by rw [wA_arr (by omega), oA 9 (by omega)]; exact e1.2.2.2 j a ha⟩, e2, fun jj hjj => ?_, fun jj hjj => ?_, o4, o5, o7, by rw [gS_wA, o1 0 26 (by decide)]; exact k26, by omega, by omega⟩
        · by_cases e : jj = i
          · subst e
            exact Or.inr ⟨_, pv, if_pos rfl, wA_at _ _ _ _, sg sv, rv, hpk.2.1, hpk.2.2.1, hpk.2.2.2⟩
          · rw [wA_ne (by omega), oA 10 (by omega)]
            unfold up
            rw [if_neg e]
            rcases e3 jj hjj with a | ⟨w, q, a1, a2, a3, a4, a5⟩
            · exact Or.inl a
            · exact Or.inr ⟨w, q, a1, a2, sgM (by omega) a3, by omega, a5⟩
        · unfold up
          rw [if_neg (by omega)]; exact e3b jj hjj
      have kp := kP_push (σ := wA ω 10 i (nI pv)) (G := G) (l1 := nI p) (l2 := nI s) (l3 := nI j) (l4 := nI (m ||| sb)) (l5 := gA σ 16 i0)
      have pa := push_at (σ := wA ω 10 i (nI pv)) (G := G) (l1 := nI p) (l2 := nI s) (l3 := nI j) (l4 := nI (m ||| sb)) (l5 := gA σ 16 i0)
      have gIn1 : gIn (nms (vb P)) (wA ω 10 i (nI pv)) Gs (gA σ 16 i0) G := gIn_mv (fun n a b j _ => by rw [wA_arr (by omega), oA n (by omega)]) (fun n a j hj => by rw [wA_arr (by omega), oM n a j (by omega)]) kg
      have X1 : okP (nms (vb P)) (wA ω 10 i (nI pv)) p X := ⟨hXC, hXf, sgM (by omega) kX.2.2.1, hXp, hXv⟩
      have Y1 : okT (wA ω 10 i (nI pv)) s Y := ⟨hYC, hYf, hYv, sgM (by omega) kY.2.2.2.1, hYp⟩
      have hmx : mus (Sum.inr (k, (pts X).take j, unm (pts Y) (m ||| sb)) :: Gs) = 3 * ((pts X).take j).flatten.length + 1 + mus Gs := rfl
      have hpre2 : preM P t F1 (wA ω 10 i (nI pv)) := by
        cases F1 with
        | none => exact ⟨by rw [gS_wA, o1 0 27 (by decide)]; exact w2.1, w2.2⟩
        | some E1 =>
          have h : okM P t E1 τ := w2
          refine ⟨by rw [gS_wA, o1 0 27 (by decide)]; exact h.1, by rw [gS_wA, o1 0 16 (by decide)]; exact h.2.1, h.2.2.1, h.2.2.2.1, h.2.2.2.2.1, fun ii M hM kk y hy => sgM ?_ (h.2.2.2.2.2 ii M hM kk y hy)⟩
          have h1 := get_lt hM
          have h2 := h.2.2.1
          have h3 := h.2.2.2.2.1 M (get_mem hM)
          have h4 := (h3.2 y (get_mem hy)).1
          have h5 := get_lt hy
          rw [M_len h3.1] at h5
          omega
      refine m_goal (d := d + 3 * n + 45) (by rw [gS_wA, o1 0 26 (by decide)]; exact k26) (by omega) ?_
      rw [show d + 3 * n + 46 = (d + 1) + 3 * n + 45 by omega]
      refine hW (d + 1) (Sum.inr (k, (pts X).take j, unm (pts Y) (m ||| sb)) :: Gs) (up β i (joinT k (pck (pts Y) sb))) T' (G + 1) F1 _ _ _ (by rw [hmx]; omega) (kP_env env1 kp pa.2.2.2.2.2) ⟨G, by omega, rfl, ⟨p, s, j, m ||| sb, X, Y, pa.1, pa.2.1, pa.2.2.1, pa.2.2.2.1, kP_okP X1 kp, kP_okT Y1 kp, hk34, hkX, hkY, hjX, rfl, or_lt hm hsbl, rfl⟩, by rw [pa.2.2.2.2.1]; exact kP_gIn gIn1 kp⟩ (fun M hM => hgood M (brsol sb M hsb1 hsbl hnd0 hM)) (pre_kP hpre2 kp) (by rw [hmx]; omega) fun υ x1 x2 => ⟨v4, ?_⟩
      have mv : ∀ n, n < 5 → gA (wS (wA (wS υ 0 26 (nI G)) 10 i (-1 : Int32)) 0 4 (nI T)) n = gA υ n := fun n hn => by rw [gA_wS, wA_arr (by omega), gA_wS]
      have s27 : gS (wS (wA (wS υ 0 26 (nI G)) 10 i (-1 : Int32)) 0 4 (nI T)) 0 27 = gS υ 0 27 := by rw [wS_ne (by omega), gS_wA, wS_ne (by omega)]
      have s16 : gS (wS (wA (wS υ 0 26 (nI G)) 10 i (-1 : Int32)) 0 4 (nI T)) 0 16 = gS υ 0 16 := by rw [wS_ne (by omega), gS_wA, wS_ne (by omega)]
      have kk : kW T G τ (wS (wA (wS υ 0 26 (nI G)) 10 i (-1 : Int32)) 0 4 (nI T)) := by
        refine ⟨fun n kk z => ?_, fun n h5 z => ?_, fun jj hjj => ?_, fun n a b jj hjj => ?_, fun n a jj hjj => ?_, ?_⟩
        · by_cases c1 : (n, kk) = (0, 4)
          · obtain ⟨c2, c3⟩ := Prod.mk.inj c1
            rw [c2, c3, wS_at]; exact e4.symm
          · rw [wS_ne (fun e => c1 (by rw [e.1, e.2])), gS_wA]
            by_cases c4 : (n, kk) = (0, 26)
            · obtain ⟨c2, c3⟩ := Prod.mk.inj c4
              rw [c2, c3, wS_at]; exact k26.symm
            · rw [wS_ne (fun e => c4 (by rw [e.1, e.2])), x1.1 n kk z, kp.1 n kk c4, gS_wA]
              by_cases c5 : (n, kk) ∈ [(0, 4), (0, 5), (0, 7)]
              · simp only [List.mem_cons, Prod.mk.injEq, List.not_mem_nil, or_false] at c5
                rcases c5 with c5 | c5 | c5
                · exact absurd (by rw [c5.1, c5.2]) c1
                · rw [c5.1, c5.2, o5]; exact e5.symm
                · rw [c5.1, c5.2, o7]; exact e6.symm
              · exact o1 n kk c5
        · rw [gA_wS, wA_arr (fun e => z (by rw [e]; simp)), gA_wS, x1.2.1 n h5 z, kp.2.1 n (by simp at z; omega), wA_arr (fun e => z (by rw [e]; simp)), oA n (by simp at z; omega)]
        · rw [gA_wS]
          by_cases e : jj = i
          · subst e
            rw [wA_at, ← b10, oA 10 (by omega)]
          · rw [wA_ne (by omega), gA_wS, x1.2.2.1 jj hjj, kp.2.1 10 (by omega), wA_ne (by omega), oA 10 (by omega)]
        · rw [gA_wS, wA_arr (by omega), gA_wS, x1.2.2.2.1 n a b jj (by omega), kp.2.2.1 n a b jj hjj, wA_arr (by omega), oA n (by omega)]
        · rw [mv n a, x1.2.2.2.2.1 n a jj (by omega), kp.2.1 n (by omega), wA_arr (by omega), oM n a jj (by omega)]
        · exact (show υ.2 = τ.2 from x1.2.2.2.2.2.trans o2)
      rcases x2 with x2 | ⟨E1, F2, y1, y2, y3⟩
      · exact ih (sb + 1) _ none (by omega) (by omega) (kW_trans w1 kk) (show manyM P t _ from ⟨by rw [s27]; exact x2.1, x2.2⟩) (Or.inl rfl)
      · refine ih (sb + 1) _ (some F2) (by omega) (by omega) (kW_trans w1 kk) (show okM P t F2 _ from ok_mv y2 s27 s16 mv) ?_
        rcases w3 with w3 | ⟨E, E1', z1, z2, z3⟩
        · rw [w3] at y1; cases y1
        · rw [y1] at z2
          cases z2
          refine Or.inr ⟨E, F2, z1, rfl, fun M => ?_⟩
          rw [y3 M, z3 M]
          constructor
          · rintro ((h | ⟨c, c1, c2⟩) | h)
            · exact Or.inl h
            · exact Or.inr ⟨c, by omega, c2⟩
            · exact Or.inr ⟨sb, by omega, hgd, h⟩
          · rintro (h | ⟨c, c1, c2⟩)
            · exact Or.inl (Or.inl h)
            · by_cases e : c = sb
              · subst e; exact Or.inr c2.2
              · exact Or.inl (Or.inr ⟨c, by omega, c2⟩)
  refine loop (2 ^ (pts Y).length - 1) 1 σ F (by have := Nat.two_pow_pos (pts Y).length; omega) (Nat.le_refl _) kW_rfl hpre ?_
  cases hF : F with
  | none => exact Or.inl rfl
  | some E => exact Or.inr ⟨E, E, by rw [hF], rfl, fun M => ⟨Or.inl, fun h => h.elim id fun ⟨c, c1, c2, _⟩ => absurd c2.1 (by omega)⟩⟩
end MPP
