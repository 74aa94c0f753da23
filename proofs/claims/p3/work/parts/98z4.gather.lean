/-! ===== gather: the TERMS in a TERM come into the list ===== -/
def cld (n : Nat) (D : List Tm) : Prop := ∀ y ∈ D, y.length ≤ n → ∀ z ∈ subs y, z ∈ D
theorem gi_at {α : Type} (D : List α) (x : α) {i : Nat} (hi : i ≤ D.length) (j : Nat) : (D.take i ++ x :: D.drop i)[j]? = if j < i then D[j]? else if j = i then some x else D[j - 1]? := by
  have hl : (D.take i).length = i := by rw [List.length_take]; omega
  by_cases h : j < i
  · rw [if_pos h, List.getElem?_append_left (by omega), List.getElem?_take, if_pos h]
  · rw [if_neg h, List.getElem?_append_right (by omega), hl]
    by_cases h2 : j = i
    · rw [if_pos h2, h2, Nat.sub_self]
      rfl
    · rw [if_neg h2]
      obtain ⟨m, hm⟩ : ∃ m, j - i = m + 1 := ⟨j - i - 1, by omega⟩
      rw [hm, List.getElem?_cons_succ, List.getElem?_drop]
      exact congrArg (fun z => D[z]?) (by omega)
theorem gi_mem {α : Type} (D : List α) (x : α) (i : Nat) {y : α} : y ∈ D.take i ++ x :: D.drop i ↔ y = x ∨ y ∈ D := by
  rw [List.mem_append, List.mem_cons]
  have h : y ∈ D ↔ y ∈ D.take i ∨ y ∈ D.drop i := by
    rw [← List.mem_append, List.take_append_drop]
  rw [h]
  constructor
  · rintro (h | h | h)
    · exact Or.inr (Or.inl h)
    · exact Or.inl h
    · exact Or.inr (Or.inr h)
  · rintro (h | h | h)
    · exact Or.inr (Or.inl h)
    · exact Or.inl h
    · exact Or.inr (Or.inr h)
theorem gi_srt {D : List Tm} {x : Tm} {i : Nat} (hD : D.Pairwise tlt) (h1 : ∀ j (h : j < D.length), j < i → tlt D[j] x) (h2 : ∀ j (h : j < D.length), i ≤ j → tlt x D[j]) : (D.take i ++ x :: D.drop i).Pairwise tlt := by
  have k1 : ∀ y ∈ D.take i, tlt y x := fun y hy => by
    obtain ⟨j, hj, rfl⟩ := List.mem_iff_getElem.mp hy
    rw [List.getElem_take]
    rw [List.length_take] at hj
    exact h1 j (by omega) (by omega)
  have k2 : ∀ y ∈ D.drop i, tlt x y := fun y hy => by
    obtain ⟨j, hj, rfl⟩ := List.mem_iff_getElem.mp hy
    rw [List.getElem_drop]
    rw [List.length_drop] at hj
    exact h2 (i + j) (by omega) (by omega)
  refine List.pairwise_append.mpr ⟨hD.sublist (List.take_sublist _ _), List.pairwise_cons.mpr ⟨k2, hD.sublist (List.drop_sublist _ _)⟩, fun a ha b hb => ?_⟩
  rcases List.mem_cons.mp hb with rfl | hb
  · exact k1 a ha
  · exact tlt_trans _ _ _ (k1 a ha) (k2 b hb)
theorem fr_R {S : List (Nat × Nat)} {A J P : List Nat} {σ τ : am_S} (h : fr S A J P σ τ) (hS : ∀ x ∈ S, x.1 < 48) (hP : ∀ x ∈ P, x < 48) {t : Nat} {x : Tm} (hr : Rp σ t x) : Rp τ t x := Rp_ext (ext_fr h hS hP) hr
theorem q12 : ∀ x ∈ [((12 : Nat), (3 : Nat))], x.1 < 48 := by decide
theorem q13 : ∀ x ∈ [(13 : Nat)], x < 48 := by decide
theorem x_shift {D : List Tm} {σ : am_S} {t d i : Nat} {x : Tm} {l2 : Int32} {Q : Unit → am_S → Prop} (hI : In D σ) (h40 : D.length < 40) (hi : i ≤ D.length) (hr : Rp σ t x)
    (H : ∀ τ, fr [(12, 3)] [] [] [13] σ τ → gS τ 12 3 = nI (D.length + 1) → (∀ m, m ≤ i → gP τ 13 m = gP σ 13 m) → gP τ 13 (i + 1) = some t → (∀ m, i < m → m ≤ D.length → gP τ 13 (m + 1) = gP σ 13 m) → am_X ru am_Lx IX1_gather (d + 1) 84 [some (.ref 12), some (.ref t), some (.int l2), some (.int (nI (i + 1))), some (.int (0 : Int32))] [] τ Q) :
    ∀ (n c : Nat) (τ : am_S), c = i + n → c ≤ D.length → fr [(12, 3)] [] [] [13] σ τ → gS τ 12 3 = gS σ 12 3 → (∀ m, m ≤ c → gP τ 13 m = gP σ 13 m) → (∀ m, c < m → m ≤ D.length → gP τ 13 (m + 1) = gP σ 13 m) → am_X ru am_Lx IX1_gather (d + 1) 36 [some (.ref 12), some (.ref t), some (.int l2), some (.int (nI (i + 1))), some (.int (nI c))] [] τ Q := by
  intro n
  induction n with
  | zero =>
    intro c τ hc hcl f h1 h2 h3
    have e : c = i := by omega
    subst e
    refine vX1_gather_36 ⟨fun _ => ⟨vp_in_nI (by omega) (by omega), Rp_T (fr_R f q12 q13 hr), ?_⟩, fun z => absurd (nI_lt (Nat.lt_succ_self _) (by omega)) z⟩
    rw [nI_clamp (by omega)]
    refine H _ (fr_wS (fr_wP f (by simp)) (by simp)) ?_ (fun m hm => ?_) ?_ (fun m hm hm2 => ?_)
    · rw [wS_at, h1, hI.1, nI_1]
    · show gP (wP τ 13 (c + 1) (some t)) 13 m = _
      rw [wP_ne (by omega)]
      exact h2 m hm
    · show gP (wP τ 13 (c + 1) (some t)) 13 (c + 1) = _
      rw [wP_at]
    · show gP (wP τ 13 (c + 1) (some t)) 13 (m + 1) = _
      rw [wP_ne (by omega)]
      exact h3 m hm hm2
  | succ n ih =>
    intro c τ hc hcl f h1 h2 h3
    obtain ⟨e, rfl⟩ : ∃ e, c = e + 1 := ⟨c - 1, by omega⟩
    refine vX1_gather_36 ⟨fun z => absurd z (nI_nlt (by omega) (by omega)), fun _ => ?_⟩
    rw [nI_clamp (by omega)]
    have he : e < D.length := by omega
    obtain ⟨u, hu, hru⟩ := hI.2.2.1 _ _ (List.getElem?_eq_getElem he)
    have hu2 : gP τ 13 (e + 1) = some u := (h2 _ (Nat.le_refl _)).trans hu
    refine ⟨vp_in_nI (by omega) (by omega), o_s hu2 ⟨by rw [nI_1]; exact vp_in_nI (by omega) (by omega), Rp_T (fr_R f q12 q13 hru), ?_⟩⟩
    rw [nI_1, nI_clamp (by omega), i_m1, nI_pred]
    refine ih e _ (by omega) (by omega) (fr_wP f (by simp)) h1 (fun m hm => ?_) (fun m hm hm2 => ?_)
    · rw [wP_ne (by omega)]
      exact h2 m (by omega)
    · by_cases hme : m = e + 1
      · rw [hme, wP_at, hu]
      · rw [wP_ne (by omega)]
        exact h3 m (by omega) hm2
theorem D40 {D : List Tm} {σ : am_S} {W : Tm} (hW : Can W) (hf : fits W) (hI : In D σ) (hD : ∀ y ∈ D, y ∈ subs W) : D.length ≤ 40 := Nat.le_trans (nd_le (In_nd hI) hD) (Nat.le_trans (sb_len hW) hf.1)
theorem x_gather {W : Tm} (hW : Can W) (hfW : fits W) : ∀ x, Can x → ∀ (t dep d : Nat) (D : List Tm) (σ : am_S) (Q : Unit → am_S → Prop), In D σ → x ∈ subs W → (∀ y ∈ D, y ∈ subs W) → cld x.length D → Rp σ t x → dep + x.length ≤ 40 →
    (∀ D' τ, fr [(12, 3)] [] [] [13] σ τ → In D' τ → (∀ y ∈ D, y ∈ D') → x ∈ D' → (∀ y ∈ D', y ∈ D ∨ y.length ≤ x.length) → (∀ y ∈ D', y ∈ subs W) → cld x.length D' → Q () τ) → am_K ru am_Lx IX1_gather (d + x.length + 44) [.ref 12, .ref t, .int (nI dep)] σ Q := by
  refine can_ind fun k a L hl hc ih t dep d D σ Q hI hxW hDW hcl hr hdep H => ?_
  have hwL : ∀ y ∈ L, wf y := fun y hy => Can_wf (hc y hy)
  have hcx : Can (node k a L) := Can_mk hl hc
  have hpts : pts (node k a L) = L := pts_node hwL
  have h40 := D40 hW hfW hI hDW
  have hlx : (node k a L).length ≤ 1000 := by omega
  have hpos : 1 ≤ (node k a L).length := wf_pos (Can_wf hcx)
  generalize hx : node k a L = x at *
  refine vX1_gather ⟨fun z => absurd z (nI_ge (a := dep) (b := 40) (by omega) (by omega)), fun _ => ?_⟩
  rw [hI.1]
  refine ⟨fun z => ?_, fun z => x_idOf (d := d + x.length) hI h40 hcx hlx hr (fun i hi => ⟨fun w => absurd w (nI_ne0 (by omega) (by
    have := (List.getElem?_eq_some_iff.mp hi).1
    omega)), fun _ => H D σ fr_rfl hI (fun _ h => h) (List.mem_of_getElem? hi) (fun _ h => Or.inl h) hDW hcl⟩) (fun hno => ⟨fun _ => ?_, fun w => absurd rfl w⟩)⟩
  · -- the list is full: all are in it
    have e40 : D.length = 40 := by
      have : 40 ≤ D.length := (nI_leI (a := 40) (by decide) (by omega)).mp z
      omega
    have hall := nd_all (In_nd hI) hDW (by
      have := sb_len (n := W.length) hW
      have := hfW.1
      show (sb W.length W).length ≤ _
      omega)
    exact H D σ fr_rfl hI (fun _ h => h) (hall x hxW) (fun _ h => Or.inl h) hDW hcl
  · have hlt40 : D.length < 40 := by
      have hn : (x :: D).Nodup := List.nodup_cons.mpr ⟨hno, In_nd hI⟩
      have h1 := nd_le hn (l := subs W) (fun y hy => by
        rcases List.mem_cons.mp hy with rfl | hy
        · exact hxW
        · exact hDW y hy)
      have h2 := sb_len (n := W.length) hW
      have h3 := hfW.1
      rw [List.length_cons] at h1
      have h4 : (subs W).length ≤ W.length := h2
      omega
    refine x_place (d := d + x.length + 1) hI h40 hcx hlx hr fun i hi h1 h2 => ?_
    rw [hI.1]
    have h2' : ∀ j (h : j < D.length), i ≤ j → tlt x D[j] := fun j hj hij => by
      have hne : D[j] ≠ x := fun e => hno (e ▸ List.getElem_mem hj)
      rcases tlt_total (Can_wf (hI.2.2.2 _ (List.getElem_mem hj)).1) (Can_wf hcx) hne with y | y
      · exact absurd y (h2 j hj hij)
      · exact y
    refine x_shift (d := d + x.length + 43) hI hlt40 hi hr (fun τ f g1 g2 g3 g4 => ?_) (D.length - i) D.length σ (by omega) (Nat.le_refl _) fr_rfl rfl (fun _ _ => rfl) (fun m z1 z2 => by omega)
    have hfx : fits x := (subs_good hW hfW hxW).2.1
    have hI1 : In (D.take i ++ x :: D.drop i) τ := by
      refine ⟨?_, gi_srt hI.2.1 h1 h2', fun j y hy => ?_, fun y hy => ?_⟩
      · rw [g1]
        refine congrArg nI ?_
        rw [List.length_append, List.length_cons, List.length_take, List.length_drop]
        omega
      · rw [gi_at D x hi] at hy
        by_cases c1 : j < i
        · rw [if_pos c1] at hy
          obtain ⟨u, e1, e2⟩ := hI.2.2.1 j y hy
          exact ⟨u, (g2 (j + 1) (by omega)).trans e1, fr_R f q12 q13 e2⟩
        · rw [if_neg c1] at hy
          by_cases c2 : j = i
          · rw [if_pos c2] at hy
            cases hy
            exact ⟨t, by rw [c2]; exact g3, fr_R f q12 q13 hr⟩
          · rw [if_neg c2] at hy
            obtain ⟨u, e1, e2⟩ := hI.2.2.1 (j - 1) y hy
            have hjl := (List.getElem?_eq_some_iff.mp hy).1
            refine ⟨u, ?_, fr_R f q12 q13 e2⟩
            rw [g4 j (by omega) (by omega)]
            rwa [show j - 1 + 1 = j by omega] at e1
      · rcases (gi_mem D x i).mp hy with rfl | hy
        · exact ⟨hcx, hfx⟩
        · exact hI.2.2.2 y hy
    -- the parts
    have loop : ∀ (n j : Nat) (E : List Tm) (υ : am_S), j + n = L.length → fr [(12, 3)] [] [] [13] σ υ → In E υ → (∀ y ∈ D, y ∈ E) → x ∈ E → (∀ y ∈ E, y ∈ D ∨ y.length ≤ x.length) → (∀ y ∈ E, y ∈ subs W) → (∀ y ∈ E, y.length ≤ x.length → y ≠ x → ∀ z ∈ subs y, z ∈ E) → (∀ m y, m < j → L[m]? = some y → y ∈ E) → am_X ru am_Lx IX1_gather (d + x.length + 43 + 1) 84 [some (.ref 12), some (.ref t), some (.int (nI dep)), some (.int (nI (i + 1))), some (.int (nI j))] [] υ Q := by
      intro n
      induction n with
      | zero =>
        intro j E υ hj fu hE e1 e2 e3 e4 e5 e6
        have hru := fr_R fu q12 q13 hr
        rw [← hx] at hru
        obtain ⟨b, b1, b2, b3, b4, b5, b6, b7⟩ := Rp_out hwL hru
        refine vX1_gather_84 ⟨Rp_T hru, o_s b3 ⟨ar_A b4, fun _ => ?_, fun z => ?_⟩⟩
        · refine H E υ fu hE e1 e2 e3 e4 (fun y hy hyl z hz => ?_)
          by_cases hyx : y = x
          · subst hyx
            rcases subs_out hcx hz with rfl | ⟨p, hp, hzp⟩
            · exact hy
            · rw [hpts] at hp
              obtain ⟨m, hm, rfl⟩ := List.mem_iff_getElem.mp hp
              have hpl := pts_len hcx (by rw [hpts]; exact List.getElem_mem hm)
              exact e5 _ (e6 m _ (by omega) (List.getElem?_eq_getElem hm)) (by omega) (fun w => by rw [w] at hpl; omega) z hzp
          · exact e5 y hy hyl hyx z hz
        · rw [ar_L b4] at z
          exact absurd (nI_le (a := L.length) (b := j) (by omega) (by
            have := (fits_node.mp (hx ▸ hfx)).1
            omega)) z
      | succ n ihn =>
        intro j E υ hj fu hE e1 e2 e3 e4 e5 e6
        have h8 : L.length ≤ 8 := (fits_node.mp (hx ▸ hfx)).1
        have hru := fr_R fu q12 q13 hr
        rw [← hx] at hru
        obtain ⟨b, b1, b2, b3, b4, b5, b6, b7⟩ := Rp_out hwL hru
        have hjl : j < L.length := by omega
        obtain ⟨u, hu1, hu2⟩ := b7 j _ (List.getElem?_eq_getElem hjl)
        have hpm : L[j] ∈ L := List.getElem_mem hjl
        have hpl : L[j].length < x.length := pts_len hcx (by rw [hpts]; exact hpm)
        refine vX1_gather_84 ⟨Rp_T hru, o_s b3 ⟨ar_A b4, fun z => ?_, fun _ => ⟨Rp_T hru, o_s b3 ⟨ar_R b4, ?_⟩⟩⟩⟩
        · rw [ar_L b4] at z
          exact absurd z (nI_ge (a := j) (b := L.length) hjl (by omega))
        · rw [ar_L b4, nI_clamp (by omega)]
          refine ⟨vp_in_nI hjl (by omega), o_s hu1 ?_⟩
          rw [nI_1, nI_1]
          have key := ih L[j] hpm u (dep + 1) (d + x.length - 1 - L[j].length) E υ (fun _ σ5 => am_X ru am_Lx IX1_gather (d + x.length + 43 + 1) 84 [some (.ref 12), some (.ref t), some (.int (nI dep)), some (.int (nI (i + 1))), some (.int (nI (j + 1)))] [] σ5 Q) hE (by
            have hps : L[j] ∈ subs x := subs_part hcx (by rw [hpts]; exact hpm) (subs_self (hc _ hpm))
            exact subs_tr hW hxW hps) e4 (fun y hy hyl => e5 y hy (by omega) (fun w => by rw [w] at hyl; omega)) hu2 (by omega) (fun E' υ' f' hE' q1 q2 q3 q4 q5 => ihn (j + 1) E' υ' (by omega) (fr_trans fu f') hE' (fun y hy => q1 y (e1 y hy)) (q1 x e2) (fun y hy => by
            rcases q3 y hy with w | w
            · exact e3 y w
            · exact Or.inr (by omega)) q4 (fun y hy hyl hyx z hz => by
            rcases q3 y hy with w | w
            · exact q1 z (e5 y w hyl hyx z hz)
            · exact q5 y hy w z hz) (fun m y hm hy => by
            by_cases w : m = j
            · subst w
              rw [List.getElem?_eq_getElem hjl] at hy
              cases hy
              exact q2
            · exact q1 y (e6 m y (by omega) hy)))
          rw [show d + x.length - 1 - L[j].length + L[j].length + 44 = d + x.length + 43 by omega] at key
          exact key
    refine loop L.length 0 _ τ (by omega) f hI1 (fun y hy => (gi_mem D x i).mpr (Or.inr hy)) ((gi_mem D x i).mpr (Or.inl rfl)) (fun y hy => ?_) (fun y hy => ?_) (fun y hy hyl hyx z hz => ?_) (fun m y hm _ => by omega)
    · rcases (gi_mem D x i).mp hy with rfl | hy
      · exact Or.inr (Nat.le_refl _)
      · exact Or.inl hy
    · rcases (gi_mem D x i).mp hy with rfl | hy
      · exact hxW
      · exact hDW y hy
    · rcases (gi_mem D x i).mp hy with w | hy
      · exact absurd w hyx
      · exact (gi_mem D x i).mpr (Or.inr (hcl y hy hyl z hz))
