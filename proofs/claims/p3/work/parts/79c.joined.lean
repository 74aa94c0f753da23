section MJ2
variable {σ τ υ : am_S}
/-- joined: what it comes to -/
def jd (lo b T m : Nat) (x : Tm) (v : Int32) (τ : am_S) : Prop := (b = 0 ∧ gS τ 0 5 = 0 ∧ ∃ T' p, gS τ 0 4 = nI T' ∧ T ≤ T' ∧ T' ≤ T + x.length ∧ (T' ≤ 60000 ∨ T' = T) ∧ v = nI p ∧ seg τ p x ∧ (p + x.length ≤ T' ∧ lo ≤ p ∧ (p = T ∨ m = 1))) ∨ ((b = 1 ∨ 60000 < T + x.length) ∧ gS τ 0 5 = 1 ∧ gS τ 0 4 = nI T)
theorem canF_flK {k n : Nat} {xs : List Tm} (h : ∀ x ∈ xs, canF n x) : ∀ y ∈ flK k xs, canF n y := by
  intro y hy
  obtain ⟨x, hx, hy⟩ := flK_mem.mp hy
  by_cases e : kd x = k
  · rw [fl1_eq e] at hy
    have := h x hx
    cases n with
    | zero => exact False.elim this
    | succ n => exact canF_mono (Nat.le_succ _) (canF_pts this y hy)
  · rw [fl1_ne e] at hy
    rw [List.mem_singleton.mp hy]
    exact h x hx
theorem canF_join {k n : Nat} (hk : k = 3 ∨ k = 4) {xs : List Tm} (h : ∀ x ∈ xs, canF n x) (hn : xs ≠ []) : canF (n + 1) (joinT k xs) := by
  have hC : ∀ x ∈ xs, Can x := fun x hx => ⟨n, h x hx⟩
  rcases Nat.lt_or_ge xs.length 2 with hl | hl
  · have h1 : 1 ≤ xs.length := List.length_pos_iff.mpr hn
    have : ∃ x, xs = [x] := by
      match xs, hl, h1 with
      | [x], _, _ => exact ⟨x, rfl⟩
    obtain ⟨x, rfl⟩ := this
    rw [joinT_one hk (hC x (by simp))]
    exact canF_mono (Nat.le_succ _) (h x (by simp))
  · have hc := Can_join hk hC hn
    rw [joinT_two hk hC hl] at hc ⊢
    exact canF_mk (Can_node (fun y hy => Can_wf ⟨n, canF_flK h y (srt_mem.mp hy)⟩) hc).1 fun y hy => canF_flK h y (srt_mem.mp hy)
theorem m_joined {lo k f T b n d : Nat} {xs : List Tm} {Q : Int32 → am_S → Prop} (hk : k = 3 ∨ k = 4) (hx : xs ≠ []) (he : ent σ lo f T n xs) (hcap : f + xs.length + (flK k xs).length ≤ 20000) (hl : gS σ 0 7 = nI (f + xs.length)) (hT : gS σ 0 4 = nI T) (hT2 : T ≤ 61000) (hlo : lo ≤ T) (hb : gS σ 0 5 = nI b) (hb1 : b ≤ 1) (H : ∀ v τ, wk T f σ τ → gS τ 0 7 = nI f → jd lo b T xs.length (joinT k xs) v τ → Q v τ) : am_K ri am_Lm IX11_joined (d + n + 3) [.ref 0, .int (nI k), .int (nI f)] σ Q := by
  have hcF := ent_can he
  have hC : ∀ y ∈ xs, Can y := fun y hy => ⟨n, hcF y hy⟩
  have hl1 : 1 ≤ xs.length := List.length_pos_iff.mpr hx
  have hN := flK_len hk hC
  generalize hW : flK k xs = W at hcap hN
  have hWc : ∀ y ∈ W, canF n y := fun y hy => canF_flK hcF y (by rw [hW]; exact hy)
  have hWw : ∀ y ∈ W, wf y := fun y hy => Can_wf ⟨n, hWc y hy⟩
  generalize hto : f + xs.length = to' at *
  -- sorting done: the end
  have fin : ∀ τ, wk T f σ τ → gS τ 0 4 = nI T → gS τ 0 5 = nI b → gS τ 0 7 = nI (to' + W.length) → ent τ lo f T n (srt W) → am_X ri am_Lm IX11_joined (d + n + 3) 93 [some (.ref 0), some (.int (nI k)), some (.int (nI f)), some (.int (nI to')), some (.int (nI W.length)), some (.int (nI W.length)), none, none] [] τ Q := by
    intro τ g1 g2 g3 g4 g5
    have hsl := srt_len W
    refine vX11_joined_93 (pk_le W.length W.length (fun _ => And.symm (pk_eq W.length 1 (fun e => ?_) (fun e => ?_))) (fun h => by omega))
    · obtain ⟨p, p1, p2, p3, p4⟩ := g5 0 _ (List.getElem?_eq_getElem (by omega))
      rw [nI_clamp (n := f) (by omega)]
      rw [Nat.add_zero] at p1
      rw [p1]
      have ej : joinT k xs = (srt W)[0]'(by omega) := by
        have : ∀ (V : List Tm) (h : V.length = 1) (h2 : 0 < (srt V).length), joinL k V = (srt V)[0]'h2 := fun V h h2 => by
          match V, h with
          | [y], _ => rfl
        unfold joinT
        rw [hW]
        exact this W e _
      have hlen := wf_pos (Can_wf ⟨n, p2⟩)
      refine ⟨vp_in_nI (by omega) (by decide), H _ _ (wk_S (wk_S g1 (by simp)) (by simp)) (wS_at _ _ _ _) ?_⟩
      rw [ej]
      have e4 : gS (wS (wS τ 0 7 (nI f + nI W.length)) 0 7 (nI f)) 0 4 = nI T := by rw [wS_ne (by omega), wS_ne (by omega)]; exact g2
      have e5 : gS (wS (wS τ 0 7 (nI f + nI W.length)) 0 7 (nI f)) 0 5 = nI b := by rw [wS_ne (by omega), wS_ne (by omega)]; exact g3
      rcases Nat.eq_zero_or_pos b with hb0 | hb0
      · subst hb0
        exact Or.inl ⟨rfl, e5, T, p, e4, Nat.le_refl _, (by omega), Or.inr rfl, rfl, seg_A (σ := τ) rfl p3, p4.1, p4.2, Or.inr (by omega)⟩
      · have : b = 1 := by omega
        subst this
        exact Or.inr ⟨Or.inl rfl, e5, e4⟩
    · have ej : joinT k xs = node k 0 (srt W) := by
        unfold joinT
        rw [hW]
        exact joinL_2 (by omega)
      refine m_made (lo := lo) (a := 0) (L := srt W) (T := T) (b := b) (n := n) (d := d + n) (f := f) (fun i y hy => ?_) (by omega) (by rw [wS_at, hsl, nI_add]) (by rw [wS_ne (by omega)]; exact g2) hT2 (by rw [wS_ne (by omega)]; exact g3) hb1 (fun v υ w1 w2 w3 => ?_)
      · obtain ⟨q, q1, q2, q3, q4⟩ := g5 i y hy
        exact ⟨q, q1, q2, seg_A (σ := τ) rfl q3, q4⟩
      · refine H v υ (wk_trans (wk_S g1 (by simp)) w1) w2 ?_
        rw [ej]
        rcases w3 with ⟨q1, q2, q3, q4, q5, q6⟩ | q
        · exact Or.inl ⟨q1, q3, _, T, q4, by omega, Nat.le_refl _, Or.inl q2, q5, q6, Nat.le_refl _, hlo, Or.inl rfl⟩
        · exact Or.inr q
  -- sorting
  have sort : ∀ m i τ, i + m = W.length → wk T f σ τ → gS τ 0 4 = nI T → gS τ 0 5 = nI b → gS τ 0 7 = nI (to' + W.length) → ent τ lo f T n (srt (W.take i)) → (∀ j y, i ≤ j → W[j]? = some y → ∃ p, gA τ 5 (to' + j) = nI p ∧ seg τ p y ∧ (p + y.length ≤ T ∧ lo ≤ p)) → am_X ri am_Lm IX11_joined (d + n + 3) 93 [some (.ref 0), some (.int (nI k)), some (.int (nI f)), some (.int (nI to')), some (.int (nI W.length)), some (.int (nI i)), none, none] [] τ Q := by
    intro m
    induction m with
    | zero =>
      intro i τ hi g1 g2 g3 g4 g5 g6
      have ei : i = W.length := by omega
      subst ei
      rw [List.take_length] at g5
      exact fin τ g1 g2 g3 g4 g5
    | succ m ih =>
      intro i τ hi g1 g2 g3 g4 g5 g6
      have hiW : i < W.length := by omega
      obtain ⟨p, p1, p3, p4⟩ := g6 i _ (Nat.le_refl _) (List.getElem?_eq_getElem hiW)
      have hy := hWc _ (List.getElem_mem hiW)
      have hyw := hWw _ (List.getElem_mem hiW)
      have hylen := wf_pos hyw
      have hsl : (srt (W.take i)).length = i := by rw [srt_len, List.length_take]; omega
      have hsw : ∀ z ∈ srt (W.take i), wf z := fun z hz => hWw z (List.mem_of_mem_take (srt_mem.mp hz))
      have hso : so (srt (W.take i)) := srt_so fun z hz => hWw z (List.mem_of_mem_take hz)
      refine vX11_joined_93 (pk_le W.length i (fun h => by omega) (fun _ => ?_))
      rw [nI_add, nI_add, nI_clamp (n := to' + i) (by omega), p1]
      refine ⟨vp_in_nI (by omega) (by decide), ?_⟩
      have done : ∀ j υ, j ≤ i → wk T f σ υ → gS υ = gS τ → (∀ q y, q < j → (srt (W.take i))[q]? = some y → ∃ p, gA υ 5 (f + q) = nI p ∧ seg υ p y ∧ (p + y.length ≤ T ∧ lo ≤ p)) → (∀ q y, j ≤ q → (srt (W.take i))[q]? = some y → (∃ p, gA υ 5 (f + q + 1) = nI p ∧ seg υ p y ∧ (p + y.length ≤ T ∧ lo ≤ p)) ∧ tlt W[i] y) → (∀ q y, i + 1 ≤ q → W[q]? = some y → ∃ p, gA υ 5 (to' + q) = nI p ∧ seg υ p y ∧ (p + y.length ≤ T ∧ lo ≤ p)) → seg υ p W[i] → (j = 0 ∨ ∃ z, (srt (W.take i))[j - 1]? = some z ∧ ¬ tlt W[i] z) → am_X ri am_Lm IX11_joined (d + n + 3) 93 [some (.ref 0), some (.int (nI k)), some (.int (nI f)), some (.int (nI to')), some (.int (nI W.length)), some (.int (nI i + 1)), none, none] [] (wA υ 5 (f + j) (nI p)) Q := by
        intro j υ hj k1 k2 k3 k4 k5 k6 k7
        rw [nI_1]
        have hsame : ∀ {q z}, seg υ q z → seg (wA υ 5 (f + j) (nI p)) q z := fun {q z} hz => seg_move (fun a h1 h4 r _ => wA_ne (by omega)) hz
        refine ih (i + 1) _ (by omega) (wk_5 k1 (by omega)) (by show gS υ 0 4 = _; rw [k2]; exact g2) (by show gS υ 0 5 = _; rw [k2]; exact g3) (by show gS υ 0 7 = _; rw [k2]; exact g4) (fun q y hq => ?_) (fun q y hq hqy => ?_)
        · rw [take_snoc hiW, srt_snoc, ins_at hyw hsw hso (by omega) (fun z hz => (k4 j z (Nat.le_refl _) hz).2) k7] at hq
          have hqi := get_lt hq
          rw [ins_len (by omega)] at hqi
          rw [ins_get (by omega) hqi] at hq
          by_cases h1 : q < j
          · rw [if_pos h1] at hq
            obtain ⟨r, r1, r2, r3⟩ := k3 q y h1 hq
            exact ⟨r, by rw [wA_ne (by omega)]; exact r1, hWc y (List.mem_of_mem_take (srt_mem.mp (get_mem hq))), hsame r2, r3⟩
          · rw [if_neg h1] at hq
            by_cases h2 : q = j
            · rw [if_pos h2] at hq
              cases hq
              subst h2
              exact ⟨p, wA_at _ _ _ _, hy, hsame k6, p4⟩
            · rw [if_neg h2] at hq
              obtain ⟨⟨r, r1, r2, r3⟩, _⟩ := k4 (q - 1) y (by omega) hq
              rw [show f + (q - 1) + 1 = f + q by omega] at r1
              exact ⟨r, by rw [wA_ne (by omega)]; exact r1, hWc y (List.mem_of_mem_take (srt_mem.mp (get_mem hq))), hsame r2, r3⟩
        · obtain ⟨r, r1, r2, r3⟩ := k5 q y hq hqy
          exact ⟨r, by rw [wA_ne (by omega)]; exact r1, hsame r2, r3⟩
      have inner : ∀ j υ, j ≤ i → wk T f σ υ → gS υ = gS τ → (∀ q y, q < j → (srt (W.take i))[q]? = some y → ∃ p, gA υ 5 (f + q) = nI p ∧ seg υ p y ∧ (p + y.length ≤ T ∧ lo ≤ p)) → (∀ q y, j ≤ q → (srt (W.take i))[q]? = some y → (∃ p, gA υ 5 (f + q + 1) = nI p ∧ seg υ p y ∧ (p + y.length ≤ T ∧ lo ≤ p)) ∧ tlt W[i] y) → (∀ q y, i + 1 ≤ q → W[q]? = some y → ∃ p, gA υ 5 (to' + q) = nI p ∧ seg υ p y ∧ (p + y.length ≤ T ∧ lo ≤ p)) → seg υ p W[i] → am_X ri am_Lm IX11_joined (d + n + 3) 117 [some (.ref 0), some (.int (nI k)), some (.int (nI f)), some (.int (nI to')), some (.int (nI W.length)), some (.int (nI i)), some (.int (nI p)), some (.int (nI (f + j)))] [] υ Q := by
        intro j
        induction j with
        | zero =>
          intro υ hj k1 k2 k3 k4 k5 k6
          refine vX11_joined_117 (pk_le (f + 0) f (fun _ => ⟨vp_in_nI (by omega) (by decide), ?_⟩) (fun h => by omega))
          rw [nI_clamp (n := f + 0) (by omega)]
          exact done 0 υ hj k1 k2 k3 k4 k5 k6 (Or.inl rfl)
        | succ j ihj =>
          intro υ hj k1 k2 k3 k4 k5 k6
          have hjl : j < (srt (W.take i)).length := by omega
          obtain ⟨r, r1, r2, r3⟩ := k3 j _ (by omega) (List.getElem?_eq_getElem hjl)
          have hz := hWc _ (List.mem_of_mem_take (srt_mem.mp (List.getElem_mem hjl)))
          have hzw := wf_pos (Can_wf ⟨n, hz⟩)
          refine vX11_joined_117 (pk_le (f + (j + 1)) f (fun h => by omega) (fun _ => ?_))
          rw [show f + (j + 1) = f + j + 1 by omega, nI_pred, pk_m1, nI_clamp (n := f + j) (by omega), nI_clamp (n := f + j + 1) (by omega), r1]
          refine ⟨vp_in_nI (by omega) (by decide), ?_⟩
          have stop : ¬ tlt W[i] (srt (W.take i))[j] → vp_in (nI (f + j + 1)) 20000 ∧ am_X ri am_Lm IX11_joined (d + n + 3) 93 [some (.ref 0), some (.int (nI k)), some (.int (nI f)), some (.int (nI to')), some (.int (nI W.length)), some (.int (nI i + 1)), none, none] [] (wA υ 5 (f + j + 1) (nI p)) Q := fun h => ⟨vp_in_nI (by omega) (by decide), done (j + 1) υ hj k1 k2 k3 k4 k5 k6 (Or.inr ⟨_, by rw [Nat.add_sub_cancel, List.getElem?_eq_getElem hjl], h⟩)⟩
          have hm := m_ordered n (srt (W.take i))[j] W[i] υ r p (d + 2) (fun r1 σ1 => (r1 ≤ 0 → vp_in (nI (f + j + 1)) 20000 ∧ am_X ri am_Lm IX11_joined (d + n + 3) 93 [some (.ref 0), some (.int (nI k)), some (.int (nI f)), some (.int (nI to')), some (.int (nI W.length)), some (.int (nI i + 1)), none, none] [] (wA σ1 5 (f + j + 1) (nI p)) Q) ∧ (¬ r1 ≤ 0 → vp_in (nI (f + j)) 20000 ∧ vp_in (nI (f + j + 1)) 20000 ∧ am_X ri am_Lm IX11_joined (d + n + 3) 117 [some (.ref 0), some (.int (nI k)), some (.int (nI f)), some (.int (nI to')), some (.int (nI W.length)), some (.int (nI i)), some (.int (nI p)), some (.int (nI (f + j)))] [] (wA σ1 5 (f + j + 1) (gA σ1 5 (f + j))) Q)) hz ⟨n, hy⟩ r2 k6 (by omega) (by omega) (fun h v hv => ?_) (fun h => ?_) (fun h v hv => ?_)
          · rw [show d + 2 + n = d + n + 2 by omega] at hm
            exact hm
          · have hv2 : v ≤ 0 := Int32.le_of_lt hv
            exact ⟨fun _ => stop (tlt_asym h), fun z => absurd hv2 z⟩
          · exact ⟨fun _ => stop (by rw [h]; exact tlt_irr _), fun z => absurd (by decide) z⟩
          · refine ⟨fun z => absurd z (by rw [i_lt] at hv; rw [i_le]; omega), fun _ => ⟨vp_in_nI (by omega) (by decide), vp_in_nI (by omega) (by decide), ?_⟩⟩
            rw [r1]
            have hsame : ∀ {q z}, seg υ q z → seg (wA υ 5 (f + j + 1) (nI r)) q z := fun {q z} hz => seg_move (fun a h1 h4 r _ => wA_ne (by omega)) hz
            refine ihj _ (by omega) (wk_5 k1 (by omega)) k2 (fun q y hq hqy => ?_) (fun q y hq hqy => ?_) (fun q y hq hqy => ?_) (hsame k6)
            · obtain ⟨s, s1, s2, s3⟩ := k3 q y (by omega) hqy
              exact ⟨s, by rw [wA_ne (by omega)]; exact s1, hsame s2, s3⟩
            · by_cases e : q = j
              · subst e
                rw [List.getElem?_eq_getElem hjl] at hqy
                cases hqy
                exact ⟨⟨r, wA_at _ _ _ _, hsame r2, r3⟩, h⟩
              · obtain ⟨⟨s, s1, s2, s3⟩, s4⟩ := k4 q y (by omega) hqy
                exact ⟨⟨s, by rw [wA_ne (by omega)]; exact s1, hsame s2, s3⟩, s4⟩
            · obtain ⟨s, s1, s2, s3⟩ := k5 q y hq hqy
              exact ⟨s, by rw [wA_ne (by omega)]; exact s1, hsame s2, s3⟩
      refine inner i τ (Nat.le_refl _) g1 rfl (fun q y _ hqy => ?_) (fun q y hq hqy => absurd (get_lt hqy) (by omega)) (fun q y hq hqy => g6 q y (by omega) hqy) p3
      obtain ⟨s, s1, _, s2, s3⟩ := g5 q y hqy
      exact ⟨s, s1, s2, s3⟩
  -- taking apart
  have flat : ∀ m i τ, i + m = xs.length → wk T to' σ τ → gS τ 0 4 = nI T → gS τ 0 5 = nI b → gS τ 0 7 = nI (to' + (flK k (xs.take i)).length) → ent τ lo to' T n (flK k (xs.take i)) → am_X ri am_Lm IX11_joined (d + n + 3) 8 [some (.ref 0), some (.int (nI k)), some (.int (nI f)), some (.int (nI to')), some (.int (nI (f + i))), none, none, none] [] τ Q := by
    intro m
    induction m with
    | zero =>
      intro i τ hi g1 g2 g3 g4 g5
      rw [List.take_of_length_le (by omega), hW] at g4 g5
      refine vX11_joined_8 (pk_le to' (f + i) (fun _ => ?_) (fun h => by omega))
      rw [g4, pk_sub (by omega), Nat.add_sub_cancel_left]
      refine sort W.length 0 τ (by omega) (wk_mono g1 (Nat.le_refl _) (by omega)) g2 g3 g4 (fun q y hq => by simp [srt] at hq) (fun q y _ hq => ?_)
      obtain ⟨s, s1, _, s2, s3⟩ := g5 q y hq
      exact ⟨s, s1, s2, s3⟩
    | succ m ih =>
      intro i τ hi g1 g2 g3 g4 g5
      have hiL : i < xs.length := by omega
      obtain ⟨p, p1, p2, p3, p4⟩ := he i _ (List.getElem?_eq_getElem hiL)
      have hCx := hC _ (List.getElem_mem hiL)
      have hwx := Can_wf hCx
      have hlen := wf_pos hwx
      have p5 := wk_seg g1 p4.1 p3
      have p6 : gA τ 5 (f + i) = nI p := by rw [g1.2.2.2.1 _ (by omega)]; exact p1
      have hkd := (Can_kd hCx).1
      have hle : (flK k (xs.take (i + 1))).length ≤ W.length := by
        rw [← hW]
        have : flK k xs = flK k (xs.take (i + 1)) ++ flK k (xs.drop (i + 1)) := by rw [← flK_app, List.take_append_drop]
        rw [this, List.length_append]
        omega
      have hsn : flK k (xs.take (i + 1)) = flK k (xs.take i) ++ fl1 k xs[i] := by rw [take_snoc hiL, flK_app, flK_one]
      rw [hsn, List.length_append] at hle
      refine vX11_joined_8 (pk_le to' (f + i) (fun h => by omega) (fun _ => ?_))
      rw [nI_clamp (n := f + i) (by omega), p6, nI_clamp (n := p) (by omega), (seg_kd hwx p5).1]
      refine ⟨vp_in_nI (by omega) (by decide), vp_in_nI (by omega) (by decide), pk_eq (kd xs[i]) k (fun e => ?_) (fun e => ?_)⟩
      · rw [fl1_eq e] at hle hsn
        have inner : ∀ m j τ, j + m = (pts xs[i]).length → wk T to' σ τ → gS τ 0 4 = nI T → gS τ 0 5 = nI b → gS τ 0 7 = nI (to' + ((flK k (xs.take i)).length + j)) → ent τ lo to' T n (flK k (xs.take i) ++ (pts xs[i]).take j) → am_X ri am_Lm IX11_joined (d + n + 3) 46 [some (.ref 0), some (.int (nI k)), some (.int (nI f)), some (.int (nI to')), some (.int (nI (f + i))), some (.int (nI p)), some (.int (nI j)), none] [] τ Q := by
          intro m
          induction m with
          | zero =>
            intro j τ hj k1 k2 k3 k4 k5
            have k6 := wk_seg k1 p4.1 p3
            refine vX11_joined_46 ⟨vp_in_nI (by omega) (by decide), ?_⟩
            rw [nI_clamp (n := p) (by omega), (seg_kd hwx k6).2.2.1, nI_1, Nat.add_assoc f i 1]
            refine pk_le (pts xs[i]).length j (fun _ => ?_) (fun h => by omega)
            rw [List.take_of_length_le (l := pts xs[i]) (by omega)] at k5
            refine ih (i + 1) τ (by omega) k1 k2 k3 ?_ (by rw [hsn]; exact k5)
            rw [hsn, List.length_append, k4, show (pts xs[i]).length = j by omega]
          | succ m ihm =>
            intro j τ hj k1 k2 k3 k4 k5
            have hjl : j < (pts xs[i]).length := by omega
            have k6 := wk_seg k1 p4.1 p3
            have o1 := off_s hjl
            have o2 := off_le (pts xs[i]) (j + 1)
            have o3 := (wf_pts hwx).2.2
            refine vX11_joined_46 ⟨vp_in_nI (by omega) (by decide), ?_⟩
            rw [nI_clamp (n := p) (by omega), (seg_kd hwx k6).2.2.1]
            refine pk_le (pts xs[i]).length j (fun h => by omega) (fun _ => ?_)
            have s1 := seg_pts hwx k6 j _ (List.getElem?_eq_getElem hjl)
            refine m_partAt (d := d + n + 1) hwx k6 (by omega) (by omega) ?_
            refine m_put (d := d + n + 1) k4 (by omega) ?_
            rw [nI_1, ← Nat.add_assoc]
            have hsame : ∀ {q z} {v u : Int32} {l : Nat}, seg τ q z → seg (wS (wA τ 5 l v) 0 7 u) q z := fun {q z v u l} hz => seg_move (fun a h1 h4 r _ => by show gA (wA τ 5 _ _) _ _ = _; rw [wA_ne (by omega)]) hz
            refine ihm (j + 1) _ (by omega) (wk_S (wk_5 k1 (by omega)) (by simp)) (by rw [wS_ne (by omega)]; exact k2) (by rw [wS_ne (by omega)]; exact k3) (by rw [wS_at, show to' + (flK k (xs.take i)).length + j + 1 = to' + ((flK k (xs.take i)).length + (j + 1)) by omega]) (fun q y hq => ?_)
            rw [take_snoc hjl, ← List.append_assoc] at hq
            have hlj : (flK k (xs.take i) ++ (pts xs[i]).take j).length = (flK k (xs.take i)).length + j := by rw [List.length_append, List.length_take]; omega
            show ∃ p', gA (wA τ 5 _ _) 5 (to' + q) = nI p' ∧ _
            rcases Nat.lt_or_ge q ((flK k (xs.take i)).length + j) with h | h
            · rw [List.getElem?_append_left (by omega)] at hq
              obtain ⟨s, t1, t2, t3, t4⟩ := k5 q y hq
              exact ⟨s, by rw [wA_ne (by omega)]; exact t1, t2, hsame t3, t4⟩
            · rw [List.getElem?_append_right (by omega), hlj] at hq
              have hq2 := get_lt hq
              simp at hq2
              have hq3 : q = (flK k (xs.take i)).length + j := by omega
              subst hq3
              simp at hq
              subst hq
              refine ⟨p + 1 + off (pts xs[i]) j, by rw [show to' + ((flK k (xs.take i)).length + j) = to' + (flK k (xs.take i)).length + j by omega, wA_at], ?_, hsame s1, by omega⟩
              exact canF_flK hcF _ (flK_mem.mpr ⟨xs[i], List.getElem_mem hiL, by rw [fl1_eq e]; exact List.getElem_mem hjl⟩)
        exact inner _ 0 τ (Nat.zero_add _) g1 g2 g3 (by simpa using g4) (by simpa using g5)
      · rw [fl1_ne e] at hle hsn
        simp only [List.length_cons, List.length_nil] at hle
        refine m_put (d := d + n + 1) g4 (by omega) ?_
        rw [nI_1, Nat.add_assoc f i 1]
        have hsame : ∀ {q z} {v u : Int32} {l : Nat}, seg τ q z → seg (wS (wA τ 5 l v) 0 7 u) q z := fun {q z v u l} hz => seg_move (fun a h1 h4 r _ => by show gA (wA τ 5 _ _) _ _ = _; rw [wA_ne (by omega)]) hz
        refine ih (i + 1) _ (by omega) (wk_S (wk_5 g1 (by omega)) (by simp)) (by rw [wS_ne (by omega)]; exact g2) (by rw [wS_ne (by omega)]; exact g3) (by rw [wS_at, hsn, List.length_append]; rfl) (fun q y hq => ?_)
        rw [hsn] at hq
        show ∃ p', gA (wA τ 5 _ _) 5 (to' + q) = nI p' ∧ _
        rcases Nat.lt_or_ge q (flK k (xs.take i)).length with h | h
        · rw [List.getElem?_append_left (by omega)] at hq
          obtain ⟨s, t1, t2, t3, t4⟩ := g5 q y hq
          exact ⟨s, by rw [wA_ne (by omega)]; exact t1, t2, hsame t3, t4⟩
        · rw [List.getElem?_append_right (by omega)] at hq
          have hq2 := get_lt hq
          simp at hq2
          have hq3 : q = (flK k (xs.take i)).length := by omega
          subst hq3
          simp at hq
          subst hq
          exact ⟨p, wA_at _ _ _ _, p2, hsame p5, p4⟩
  refine vX11_joined ?_
  rw [hl]
  exact flat xs.length 0 σ (by omega) wk_rfl hT hb (by simpa [flK] using hl) (fun q y hq => by simp [flK] at hq)
end MJ2
