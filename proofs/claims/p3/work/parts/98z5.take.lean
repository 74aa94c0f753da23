/-! ===== take: the rows and values of each of them ===== -/
/-- l are the numbers of the TERMS of L -/
def ids (D : List Tm) (L : List Tm) (l : List Nat) : Prop := l.length = L.length ∧ ∀ (j : Nat) (y : Tm), L[j]? = some y → ∃ i : Nat, D[i]? = some y ∧ l[j]? = some (i + 1)
def lk (x : Tm) : Nat := if 2 < kd x then kd x else 0
def vl (i : Nat) (x : Tm) (l : List Nat) : Int64 := if 2 < kd x then lN (rE (kd x) l) else lN (rE 0 [i + 1])
def rwOk (D : List Tm) (σ : am_S) (i : Nat) (x : Tm) : Prop := ∃ l, ids D (pts x) l ∧ gJ σ 14 (i + 1) = lN (rE (lk x) l) ∧ gJ σ 15 (i + 1) = vl i x l
/-- all that the class knows of the TERM that is matched -/
def Ins (D : List Tm) (σ : am_S) : Prop := In D σ ∧ D.length ≤ 40 ∧ (∀ x ∈ D, ∀ y ∈ pts x, y ∈ D) ∧ ∀ i x, D[i]? = some x → rwOk D σ i x
def idl (D : List Tm) (l : List Nat) : Prop := l.length ≤ 8 ∧ ∀ a ∈ l, 1 ≤ a ∧ a ≤ D.length
theorem ids_idl {D L : List Tm} {l : List Nat} (h : ids D L l) (h8 : L.length ≤ 8) : idl D l := by
  refine ⟨by rw [h.1]; exact h8, fun a ha => ?_⟩
  obtain ⟨j, hj, rfl⟩ := List.mem_iff_getElem.mp ha
  have hjL : j < L.length := by rw [← h.1]; exact hj
  obtain ⟨i, h1, h2⟩ := h.2 j _ (List.getElem?_eq_getElem hjL)
  rw [List.getElem?_eq_getElem hj] at h2
  have e : l[j] = i + 1 := Option.some.inj h2
  have := (List.getElem?_eq_some_iff.mp h1).1
  omega
theorem idl_rG {D : List Tm} {l : List Nat} (h : idl D l) (h40 : D.length ≤ 40) : rG l := ⟨h.1, fun a ha => by have := h.2 a ha; omega⟩
theorem ids_srt {D L : List Tm} {l : List Nat} (hD : D.Pairwise tlt) (h : ids D L l) (hL : L.Pairwise (fun x y => ¬ tlt y x)) : l.Pairwise (· ≤ ·) := by
  refine List.pairwise_iff_getElem.mpr fun i j hi hj hij => ?_
  have hiL : i < L.length := by rw [← h.1]; exact hi
  have hjL : j < L.length := by rw [← h.1]; exact hj
  obtain ⟨a, a1, a2⟩ := h.2 i _ (List.getElem?_eq_getElem hiL)
  obtain ⟨b, b1, b2⟩ := h.2 j _ (List.getElem?_eq_getElem hjL)
  rw [List.getElem?_eq_getElem hi] at a2
  rw [List.getElem?_eq_getElem hj] at b2
  have ea : l[i] = a + 1 := Option.some.inj a2
  have eb : l[j] = b + 1 := Option.some.inj b2
  have hn := List.pairwise_iff_getElem.mp hL i j hiL hjL hij
  rcases Nat.lt_or_ge b a with z | z
  · obtain ⟨ga, fa⟩ := List.getElem?_eq_some_iff.mp a1
    obtain ⟨gb, fb⟩ := List.getElem?_eq_some_iff.mp b1
    have := srt_lt hD z ga
    rw [fa, fb] at this
    exact absurd this hn
  · omega
theorem In_fr {D : List Tm} {σ τ : am_S} {A J : List Nat} (h : In D σ) (f : fr [] A J [] σ τ) : In D τ := by
  refine ⟨(f.1 12 3 (by simp)).trans h.1, h.2.1, fun i x hx => ?_, h.2.2.2⟩
  obtain ⟨t, h1, h2⟩ := h.2.2.1 i x hx
  exact ⟨t, by rw [f.2.2.2.1 13 (by simp)]; exact h1, fr_R f (fun _ z => by cases z) (fun _ z => by cases z) h2⟩
theorem rw_fr {D : List Tm} {σ τ : am_S} {i : Nat} {x : Tm} (h : rwOk D σ i x) (h1 : gJ τ 14 (i + 1) = gJ σ 14 (i + 1)) (h2 : gJ τ 15 (i + 1) = gJ σ 15 (i + 1)) : rwOk D τ i x := by
  obtain ⟨l, a, b, c⟩ := h
  exact ⟨l, a, h1.trans b, h2.trans c⟩
theorem x_tk {D : List Tm} {σ : am_S} {t d : Nat} {Q : Unit → am_S → Prop} (hI : In D σ) (h40 : D.length ≤ 40) (hcl : ∀ x ∈ D, ∀ y ∈ pts x, y ∈ D)
    (H : ∀ τ, fr [] [] [14, 15] [] σ τ → (∀ i x, D[i]? = some x → rwOk D τ i x) → Q () τ) : ∀ (n i : Nat) (τ : am_S), i + n = D.length → fr [] [] [14, 15] [] σ τ → (∀ j x, j < i → D[j]? = some x → rwOk D τ j x) → am_X ru am_Lx IX1_take (d + 45) 13 [some (.ref 12), some (.ref t), some (.int (nI (i + 1))), none, none, none, none, none] [] τ Q := by
  intro n
  induction n with
  | zero =>
    intro i τ hi f hr
    have hIt := In_fr hI f
    refine vX1_take_13 ?_
    rw [hIt.1]
    exact ⟨fun _ => H τ f (fun j x hx => hr j x (by have := (List.getElem?_eq_some_iff.mp hx).1; omega) hx), fun z => absurd (nI_lt (by omega) (by omega)) z⟩
  | succ n ih =>
    intro i τ hi f hr
    have hIt := In_fr hI f
    have hil : i < D.length := by omega
    obtain ⟨u, hu, hru⟩ := hIt.2.2.1 _ _ (List.getElem?_eq_getElem hil)
    obtain ⟨hcx, hfx⟩ := hIt.2.2.2 _ (List.getElem_mem hil)
    have hpin := hcl _ (List.getElem_mem hil)
    generalize hxe : D[i] = x at *
    obtain ⟨ex, hloc, hcp⟩ := Can_pts hcx
    have hwp : ∀ y ∈ pts x, wf y := fun y hy => Can_wf (hcp y hy)
    have h8 := (fits_pts hcx hfx).1
    obtain ⟨hk4, -⟩ := loc_bd hloc
    have hru' : Rp τ u (node (kd x) (nm x) (pts x)) := by rw [← ex]; exact hru
    obtain ⟨b, b1, b2, b3, b4, b5, b6, b7⟩ := Rp_out hwp hru'
    -- the loop over the parts
    have loop : ∀ (fl : Nat), (fl = 0 ∧ kd x ≤ 2 ∨ fl = 1 ∧ 2 < kd x) → ∀ (m j : Nat) (l : List Nat) (υ : am_S), j + m = (pts x).length → υ = τ → ids D ((pts x).take j) l → am_X ru am_Lx IX1_take (d + 45) 64 [some (.ref 12), some (.ref t), some (.int (nI (i + 1))), some (.ref u), some (.int (nI fl)), some (.long (lN (rE (lk x) l))), none, some (.int (nI j))] [] υ Q := by
      intro fl hfl m
      induction m with
      | zero =>
        intro j l υ hj hυ hl
        subst hυ
        have ej : (pts x).take j = pts x := List.take_of_length_le (by omega)
        rw [ej] at hl
        have hg := idl_rG (ids_idl hl h8) h40
        refine vX1_take_64 ⟨Rp_T hru, o_s b3 ⟨ar_A b4, fun _ => ⟨vp_in_nI (by omega) (by omega), fun z => ?_, fun z => ?_⟩, fun z => ?_⟩⟩
        · rw [nI_clamp (by omega)]
          have hk : kd x ≤ 2 := by
            rcases hfl with h | h
            · exact h.2
            · rw [h.1] at z
              exact absurd z (by decide)
          refine r_empty (k := 0) (d := d + 43) (by decide) (r_with (k := 0) (l := []) (d := d + 42) (by decide) rG_nil (by decide) (by omega) ⟨vp_in_nI (by omega) (by omega), ?_⟩)
          rw [nI_1]
          refine ih (i + 1) _ (by omega) (fr_wJ (fr_wJ f (by simp)) (by simp)) (fun j' y hj' hy => ?_)
          by_cases e : j' = i
          · subst e
            rw [List.getElem?_eq_getElem hil, hxe] at hy
            cases hy
            refine ⟨l, hl, ?_, ?_⟩
            · rw [wJ_ne (by omega), wJ_at]
            · rw [wJ_at]
              unfold vl
              rw [if_neg (by omega)]
              rfl
          · exact rw_fr (hr j' y (by omega) hy) (by rw [wJ_ne (by omega), wJ_ne (by omega)]) (by rw [wJ_ne (by omega), wJ_ne (by omega)])
        · rw [nI_clamp (by omega)]
          have hk : 2 < kd x := by
            rcases hfl with h | h
            · rw [h.1] at z
              exact absurd rfl z
            · exact h.2
          refine ⟨vp_in_nI (by omega) (by omega), ?_⟩
          rw [nI_1]
          refine ih (i + 1) _ (by omega) (fr_wJ (fr_wJ f (by simp)) (by simp)) (fun j' y hj' hy => ?_)
          by_cases e : j' = i
          · subst e
            rw [List.getElem?_eq_getElem hil, hxe] at hy
            cases hy
            refine ⟨l, hl, ?_, ?_⟩
            · rw [wJ_ne (by omega), wJ_at]
            · rw [wJ_at]
              unfold vl lk
              rw [if_pos hk, if_pos hk]
          · exact rw_fr (hr j' y (by omega) hy) (by rw [wJ_ne (by omega), wJ_ne (by omega)]) (by rw [wJ_ne (by omega), wJ_ne (by omega)])
        · rw [ar_L b4] at z
          exact absurd (nI_le (a := (pts x).length) (b := j) (by omega) (by omega)) z
      | succ m ihm =>
        intro j l υ hj hυ hl
        subst hυ
        have hjl : j < (pts x).length := by omega
        have htl : ((pts x).take j).length = j := by rw [List.length_take]; omega
        obtain ⟨v, hv1, hv2⟩ := b7 j _ (List.getElem?_eq_getElem hjl)
        have hym := List.getElem_mem hjl
        have hll : l.length = j := by rw [hl.1, htl]
        have hidl : idl D l := ids_idl hl (by rw [htl]; omega)
        have hg := idl_rG hidl h40
        have hlk : lk x ≤ 4 := by
          unfold lk
          split
          · exact hk4
          · decide
        refine vX1_take_64 ⟨Rp_T hru, o_s b3 ⟨ar_A b4, fun z => ?_, fun _ => ⟨Rp_T hru, o_s b3 ⟨ar_R b4, ?_⟩⟩⟩⟩
        · rw [ar_L b4] at z
          exact absurd z (nI_ge (a := j) (b := (pts x).length) hjl (by omega))
        · rw [ar_L b4, nI_clamp (by omega)]
          have hyl := (hIt.2.2.2 _ (hpin _ hym)).2.1
          refine ⟨vp_in_nI hjl (by omega), o_s hv1 (x_idOf (d := d + 1) hIt h40 (hcp _ hym) (by omega) hv2 (fun c hc => ?_) (fun hno => absurd (hpin _ hym) hno))⟩
          have hcl' := (List.getElem?_eq_some_iff.mp hc).1
          refine r_with (d := d + 42) hlk hg (by omega) (by omega) ?_
          rw [nI_1]
          refine ihm (j + 1) (l ++ [c + 1]) _ (by omega) rfl ⟨?_, fun j' y hy => ?_⟩
          · rw [List.length_append, hll, List.length_take]
            show j + 1 = _
            omega
          · rw [List.getElem?_take] at hy
            by_cases e1 : j' < j + 1
            · rw [if_pos e1] at hy
              by_cases e2 : j' = j
              · subst e2
                rw [List.getElem?_eq_getElem hjl] at hy
                cases hy
                refine ⟨c, hc, ?_⟩
                rw [List.getElem?_append_right (by omega), hll, Nat.sub_self]
                rfl
              · obtain ⟨i', q1, q2⟩ := hl.2 j' y (by rw [List.getElem?_take, if_pos (by omega)]; exact hy)
                refine ⟨i', q1, ?_⟩
                rw [List.getElem?_append_left (by omega)]
                exact q2
            · rw [if_neg e1] at hy
              cases hy
    refine vX1_take_13 ?_
    rw [hIt.1]
    refine ⟨fun z => absurd z (nI_nlt (by omega) (by omega)), fun _ => ?_⟩
    rw [nI_clamp (by omega)]
    have hids0 : ids D ((pts x).take 0) [] := ⟨rfl, fun j y hy => by simp at hy⟩
    refine ⟨vp_in_nI (by omega) (by omega), o_s hu ⟨Rp_T hru, ?_⟩⟩
    rw [b1]
    refine ⟨fun z => ?_, fun z => ⟨Rp_T hru, ?_⟩⟩
    · have hk : kd x ≤ 2 := (nI_leI (b := 2) (by omega) (by decide)).mp z
      have hl0 : lk x = 0 := if_neg (by omega)
      refine r_empty (k := 0) (d := d + 43) (by decide) ?_
      have := loop 0 (Or.inl ⟨rfl, hk⟩) (pts x).length 0 [] τ (by omega) rfl hids0
      rw [hl0] at this
      exact this
    · have hk : 2 < kd x := by
        rcases Nat.lt_or_ge 2 (kd x) with y | y
        · exact y
        · exact absurd (nI_le (b := 2) y (by decide)) z
      have hl0 : lk x = kd x := if_pos hk
      refine r_empty (k := kd x) (d := d + 43) hk4 ?_
      have := loop 1 (Or.inr ⟨rfl, hk⟩) (pts x).length 0 [] τ (by omega) rfl hids0
      rw [hl0] at this
      exact this
theorem x_take {W : Tm} {σ : am_S} {t d : Nat} {Q : Unit → am_S → Prop} (hW : Can W) (hf : fits W) (hr : Rp σ t W) (H : ∀ D τ, fr [(12, 3)] [] [14, 15] [13] σ τ → Ins D τ → W ∈ D → Q () τ) : am_K ru am_Lx IX1_take (d + 85) [.ref 12, .ref t] σ Q := by
  have h40 := hf.1
  refine vX1_take ?_
  have hI0 : In [] (wS σ 12 3 0) := ⟨by rw [wS_at]; rfl, List.Pairwise.nil, fun i x hx => by simp at hx, fun x hx => by cases hx⟩
  have f0 : fr [(12, 3)] [] [] [13] σ (wS σ 12 3 0) := fr_wS fr_rfl (by simp)
  have key := x_gather hW hf W hW t 0 (d + 40 - W.length) [] (wS σ 12 3 0) (fun _ σ1 => am_X ru am_Lx IX1_take (d + 84 + 1) 13 [some (.ref 12), some (.ref t), some (.int (1 : Int32)), none, none, none, none, none] [] σ1 Q) hI0 (subs_self hW) (fun y hy => by cases hy) (fun y hy => by cases hy) (fr_R f0 q12 q13 hr) (by omega) (fun D τ f hD _ hWD _ hDW hcl => ?_)
  · rw [show d + 40 - W.length + W.length + 44 = d + 84 by omega] at key
    exact key
  · have hD40 := D40 hW hf hD hDW
    have hcl2 : ∀ x ∈ D, ∀ y ∈ pts x, y ∈ D := fun x hx y hy => by
      have g := subs_good hW hf (hDW x hx)
      exact hcl x hx g.2.2 y (subs_part g.1 hy (subs_self (pts_Can g.1 hy)))
    refine x_tk (d := d + 40) hD hD40 hcl2 (fun υ g hrw => ?_) D.length 0 τ (by omega) fr_rfl (fun j x hj _ => by omega)
    refine H D υ (fr_trans (fr_mono (fr_trans f0 f) (fun _ h => h) (fun _ h => h) (fun _ h => by cases h) (fun _ h => h)) (fr_mono g (fun _ h => by cases h) (fun _ h => h) (fun _ h => h) (fun _ h => by cases h))) ⟨In_fr hD g, hD40, hcl2, hrw⟩ hWD
