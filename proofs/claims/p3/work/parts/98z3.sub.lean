/-! ===== the TERMS in a TERM ===== -/
noncomputable def sb : Nat → Tm → List Tm
  | 0, _ => []
  | n + 1, x => x :: ((pts x).map (sb n)).flatten
noncomputable def subs (x : Tm) : List Tm := sb x.length x
theorem sb_in {n : Nat} {x z : Tm} : z ∈ sb (n + 1) x ↔ z = x ∨ ∃ p ∈ pts x, z ∈ sb n p := by
  show z ∈ x :: ((pts x).map (sb n)).flatten ↔ _
  rw [List.mem_cons, List.mem_flatten]
  refine or_congr Iff.rfl ⟨fun ⟨l, h1, h2⟩ => ?_, fun ⟨p, h1, h2⟩ => ⟨sb n p, List.mem_map.mpr ⟨p, h1, rfl⟩, h2⟩⟩
  obtain ⟨p, hp, rfl⟩ := List.mem_map.mp h1
  exact ⟨p, hp, h2⟩
theorem pts_Can {x p : Tm} (hx : Can x) (hp : p ∈ pts x) : Can p := (Can_pts hx).2.2 p hp
theorem sb_mono : ∀ {n m : Nat} {x z : Tm}, n ≤ m → z ∈ sb n x → z ∈ sb m x
  | 0, _, _, _, _, h => by cases h
  | n + 1, 0, _, _, hm, _ => by omega
  | n + 1, m + 1, x, z, hm, h => by
    rcases sb_in.mp h with h | ⟨p, h1, h2⟩
    · exact sb_in.mpr (Or.inl h)
    · exact sb_in.mpr (Or.inr ⟨p, h1, sb_mono (by omega) h2⟩)
theorem sb_any : ∀ {n : Nat} {x z : Tm}, Can x → z ∈ sb n x → z ∈ subs x
  | 0, _, _, _, h => by cases h
  | n + 1, x, z, hx, h => by
    have h1 := wf_pos (Can_wf hx)
    unfold subs
    obtain ⟨m, hm⟩ : ∃ m, x.length = m + 1 := ⟨x.length - 1, by omega⟩
    rw [hm]
    rcases sb_in.mp h with h | ⟨p, h2, h3⟩
    · exact sb_in.mpr (Or.inl h)
    · have := pts_len hx h2
      exact sb_in.mpr (Or.inr ⟨p, h2, sb_mono (by omega) (sb_any (pts_Can hx h2) h3)⟩)
theorem subs_self {x : Tm} (hx : Can x) : x ∈ subs x := sb_any (n := 1) hx (sb_in.mpr (Or.inl rfl))
theorem subs_part {x p z : Tm} (hx : Can x) (hp : p ∈ pts x) (hz : z ∈ subs p) : z ∈ subs x := sb_any (n := p.length + 1) hx (sb_in.mpr (Or.inr ⟨p, hp, hz⟩))
theorem subs_out {x z : Tm} (hx : Can x) (hz : z ∈ subs x) : z = x ∨ ∃ p ∈ pts x, z ∈ subs p := by
  have h1 := wf_pos (Can_wf hx)
  unfold subs at hz
  obtain ⟨m, hm⟩ : ∃ m, x.length = m + 1 := ⟨x.length - 1, by omega⟩
  rw [hm] at hz
  rcases sb_in.mp hz with h | ⟨p, h2, h3⟩
  · exact Or.inl h
  · exact Or.inr ⟨p, h2, sb_any (pts_Can hx h2) h3⟩
theorem sb_good : ∀ {n : Nat} {x z : Tm}, Can x → fits x → z ∈ sb n x → Can z ∧ fits z ∧ z.length ≤ x.length
  | 0, _, _, _, _, h => by cases h
  | n + 1, x, z, hx, hf, h => by
    rcases sb_in.mp h with rfl | ⟨p, h2, h3⟩
    · exact ⟨hx, hf, Nat.le_refl _⟩
    · obtain ⟨a, b, c⟩ := sb_good (pts_Can hx h2) ((fits_pts hx hf).2 p h2) h3
      have := pts_len hx h2
      exact ⟨a, b, by omega⟩
theorem subs_good {x z : Tm} (hx : Can x) (hf : fits x) (hz : z ∈ subs x) : Can z ∧ fits z ∧ z.length ≤ x.length := sb_good hx hf hz
theorem subs_tr {x z y : Tm} (hx : Can x) (hy : y ∈ subs x) (hz : z ∈ subs y) : z ∈ subs x := by
  have main : ∀ x, Can x → ∀ y z, y ∈ subs x → z ∈ subs y → z ∈ subs x := by
    refine can_ind fun k a L hl hc ih y z hy hz => ?_
    have hcx : Can (node k a L) := Can_mk hl hc
    rcases subs_out hcx hy with rfl | ⟨p, hp, hyp⟩
    · exact hz
    · have hpL : p ∈ L := by
        rw [pts_node (fun y hy => Can_wf (hc y hy))] at hp
        exact hp
      exact subs_part hcx hp (ih p hpL y z hyp hz)
  exact main _ hx _ _ hy hz
theorem flat_sum : ∀ (L : List Tm) (f : Tm → List Tm), (∀ y ∈ L, (f y).length ≤ y.length) → (L.map f).flatten.length ≤ L.flatten.length
  | [], _, _ => Nat.le_refl _
  | y :: L, f, h => by
    have h1 := h y List.mem_cons_self
    have h2 := flat_sum L f fun z hz => h z (List.mem_cons_of_mem _ hz)
    simp only [List.map_cons, List.flatten_cons, List.length_append]
    omega
theorem sb_len : ∀ {n : Nat} {x : Tm}, Can x → (sb n x).length ≤ x.length
  | 0, _, _ => Nat.zero_le _
  | n + 1, x, hx => by
    have h1 := flat_sum (pts x) (sb n) fun y hy => sb_len (pts_Can hx hy)
    obtain ⟨e, -, -⟩ := Can_pts hx
    have h2 : x.length = 1 + (pts x).flatten.length := by
      have := node_len (kd x) (nm x) (pts x)
      rwa [← e] at this
    show (x :: ((pts x).map (sb n)).flatten).length ≤ _
    rw [List.length_cons]
    omega
/-! ===== the sorted list of them, as the class holds it ===== -/
def In (D : List Tm) (σ : am_S) : Prop := gS σ 12 3 = nI D.length ∧ D.Pairwise tlt ∧ (∀ i x, D[i]? = some x → ∃ t, gP σ 13 (i + 1) = some t ∧ Rp σ t x) ∧ ∀ x ∈ D, Can x ∧ fits x
theorem In_nd {D : List Tm} {σ : am_S} (h : In D σ) : D.Nodup := nd_pair tlt_irr h.2.1
theorem srt_lt {D : List Tm} (h : D.Pairwise tlt) {i j : Nat} (hij : i < j) (hj : j < D.length) : tlt (D[i]'(by omega)) D[j] := List.pairwise_iff_getElem.mp h i j (by omega) hj hij
section INS
variable {σ : am_S} {D : List Tm} {d : Nat}
theorem x_pl9 {t : Nat} {x : Tm} {Q : Int32 → am_S → Prop} (hI : In D σ) (h40 : D.length ≤ 40) (hx : Can x) (hl : x.length ≤ 1000) (hr : Rp σ t x) (H : ∀ i, i ≤ D.length → (∀ j (h : j < D.length), j < i → tlt D[j] x) → (∀ j (h : j < D.length), i ≤ j → ¬ tlt D[j] x) → Q (nI (i + 1)) σ) : ∀ (n a b : Nat), b - a ≤ n → a ≤ b → b ≤ D.length → (∀ j (h : j < D.length), j < a → tlt D[j] x) → (∀ j (h : j < D.length), b ≤ j → ¬ tlt D[j] x) →
    am_X ri am_Lx IX1_placeOf (d + 42) 9 [some (.ref 12), some (.ref t), some (.int (nI (a + 1))), some (.int (nI (b + 1))), none] [] σ Q := by
  intro n
  induction n with
  | zero =>
    intro a b h1 h2 h3 h4 h5
    have e : a = b := by omega
    subst e
    exact vX1_placeOf_9 ⟨fun _ => H a h3 h4 h5, fun z => absurd (nI_le (Nat.le_refl _) (by omega)) z⟩
  | succ n ih =>
    intro a b h1 h2 h3 h4 h5
    refine vX1_placeOf_9 ⟨fun z => ?_, fun z => ?_⟩
    · have e : b ≤ a := by
        have := (nI_leI (by omega) (by omega)).mp z
        omega
      have e2 : a = b := by omega
      subst e2
      exact H a h3 h4 h5
    · have hab : a < b := by
        rcases Nat.lt_or_ge a b with y | y
        · exact y
        · exact absurd (nI_le (by omega) (by omega)) z
      have em : (nI (a + 1) + nI (b + 1)) >>> ((1 : Int32) &&& 31) = nI ((a + b) / 2 + 1) := by
        rw [nI_add]
        show nI (a + 1 + (b + 1)) >>> (nI 1 &&& 31) = _
        rw [nx_shr (by omega) (by decide)]
        exact congrArg nI (by omega)
      rw [em, nI_clamp (by omega)]
      have hm : (a + b) / 2 < D.length := by omega
      obtain ⟨u, hu, hru⟩ := hI.2.2.1 _ _ (List.getElem?_eq_getElem hm)
      have hcu := hI.2.2.2 _ (List.getElem_mem hm)
      have hl40 := hcu.2.1
      refine ⟨vp_in_nI (by omega) (by omega), o_s hu ?_⟩
      have key := x_compare D[(a + b) / 2] hcu.1 x u t 0 (d + 40 - D[(a + b) / 2].length) σ (fun r3 σ3 => (0 ≤ r3 → am_X ri am_Lx IX1_placeOf (d + 42) 9 [some (.ref 12), some (.ref t), some (.int (nI (a + 1))), some (.int (nI ((a + b) / 2 + 1))), none] [] σ3 Q) ∧ (¬ 0 ≤ r3 → am_X ri am_Lx IX1_placeOf (d + 42) 9 [some (.ref 12), some (.ref t), some (.int (nI ((a + b) / 2 + 1) + (1 : Int32))), some (.int (nI (b + 1))), none] [] σ3 Q)) hx hru hr (by omega) hl (fun hlt v hv => ?_) (fun he => ?_) (fun hgt v hv => ?_)
      · rw [show d + 40 - D[(a + b) / 2].length + D[(a + b) / 2].length + 1 = d + 41 by omega] at key
        exact key
      · refine ⟨fun w => absurd hv (Int32.not_lt.mpr w), fun _ => ?_⟩
        rw [nI_1]
        refine ih ((a + b) / 2 + 1) b (by omega) (by omega) h3 (fun j hj hlt2 => ?_) h5
        rcases Nat.lt_or_ge j ((a + b) / 2) with y | y
        · exact tlt_trans _ _ _ (srt_lt hI.2.1 y hm) hlt
        · have : j = (a + b) / 2 := by omega
          subst this
          exact hlt
      · refine ⟨fun _ => ih a ((a + b) / 2) (by omega) (by omega) (by omega) h4 (fun j hj hle => ?_), fun w => absurd (by decide : (0 : Int32) ≤ 0) w⟩
        intro hlt
        rcases Nat.eq_or_lt_of_le hle with y | y
        · subst y
          rw [he] at hlt
          exact tlt_irr _ hlt
        · have := srt_lt hI.2.1 y hj
          rw [he] at this
          exact tlt_irr _ (tlt_trans _ _ _ this hlt)
      · refine ⟨fun _ => ih a ((a + b) / 2) (by omega) (by omega) (by omega) h4 (fun j hj hle => ?_), fun w => absurd (Int32.le_of_lt hv) w⟩
        intro hlt
        rcases Nat.eq_or_lt_of_le hle with y | y
        · subst y
          exact tlt_asym hgt hlt
        · exact tlt_asym (tlt_trans _ _ _ hgt (srt_lt hI.2.1 y hj)) hlt
theorem x_place {t : Nat} {x : Tm} {Q : Int32 → am_S → Prop} (hI : In D σ) (h40 : D.length ≤ 40) (hx : Can x) (hl : x.length ≤ 1000) (hr : Rp σ t x) (H : ∀ i, i ≤ D.length → (∀ j (h : j < D.length), j < i → tlt D[j] x) → (∀ j (h : j < D.length), i ≤ j → ¬ tlt D[j] x) → Q (nI (i + 1)) σ) : am_K ri am_Lx IX1_placeOf (d + 42) [.ref 12, .ref t] σ Q := by
  refine vX1_placeOf ?_
  rw [hI.1, nI_1]
  exact x_pl9 hI h40 hx hl hr H D.length 0 D.length (by omega) (by omega) (by omega) (fun _ _ z => by omega) (fun _ _ z => by omega)
theorem x_idOf {t : Nat} {x : Tm} {Q : Int32 → am_S → Prop} (hI : In D σ) (h40 : D.length ≤ 40) (hx : Can x) (hl : x.length ≤ 1000) (hr : Rp σ t x) (H1 : ∀ i, D[i]? = some x → Q (nI (i + 1)) σ) (H0 : x ∉ D → Q 0 σ) : am_K ri am_Lx IX1_idOf (d + 43) [.ref 12, .ref t] σ Q := by
  refine vX1_idOf (x_place (d := d) hI h40 hx hl hr fun i hi h1 h2 => ?_)
  rw [hI.1]
  refine ⟨fun z => ?_, fun z => ?_⟩
  · have hle : D.length ≤ i := by
      rcases Nat.lt_or_ge i D.length with y | y
      · exact absurd z (nI_nlt (by omega) (by omega))
      · exact y
    refine H0 fun hm => ?_
    obtain ⟨j, hj, e⟩ := List.mem_iff_getElem.mp hm
    have := h1 j hj (by omega)
    rw [e] at this
    exact tlt_irr _ this
  · have hlt : i < D.length := by
      rcases Nat.lt_or_ge i D.length with y | y
      · exact y
      · exact absurd (nI_lt (by omega) (by omega)) z
    rw [nI_clamp (by omega)]
    obtain ⟨u, hu, hru⟩ := hI.2.2.1 _ _ (List.getElem?_eq_getElem hlt)
    have hcu := hI.2.2.2 _ (List.getElem_mem hlt)
    have hl40 := hcu.2.1
    have hno : ∀ y : Tm, tlt x D[i] → x ∉ D := fun _ hgt hm => by
      obtain ⟨j, hj, e⟩ := List.mem_iff_getElem.mp hm
      rcases Nat.lt_or_ge j i with y | y
      · have := h1 j hj y
        rw [e] at this
        exact tlt_irr _ this
      · rcases Nat.eq_or_lt_of_le y with y | y
        · subst y
          rw [e] at hgt
          exact tlt_irr _ hgt
        · have := srt_lt hI.2.1 y hj
          rw [e] at this
          exact tlt_irr _ (tlt_trans _ _ _ hgt this)
    refine ⟨vp_in_nI (by omega) (by omega), o_s hu ?_⟩
    have key := x_compare D[i] hcu.1 x u t 0 (d + 41 - D[i].length) σ (fun r4 σ4 => (¬ r4 = 0 → Q (0 : Int32) σ4) ∧ (r4 = 0 → Q (nI (i + 1)) σ4)) hx hru hr (by omega) hl (fun hlt2 v hv => absurd hlt2 (h2 i hlt (Nat.le_refl _))) (fun he => ⟨fun w => absurd rfl w, fun _ => H1 i (by rw [List.getElem?_eq_getElem hlt, he])⟩) (fun hgt v hv => ⟨fun _ => H0 (hno x hgt), fun w => by rw [w] at hv; exact absurd hv (by decide)⟩)
    rw [show d + 41 - D[i].length + D[i].length + 1 = d + 42 by omega] at key
    exact key
end INS
