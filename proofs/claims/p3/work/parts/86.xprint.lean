/-! ===== print, out: the class ===== -/
def ox (σ : am_S) (l : Nat) (ws : List Nat) (τ : am_S) : Prop := gw [(9, 1)] [10] [] [] 0 0 σ τ ∧ gS τ 9 1 = nI (l + ws.length) ∧ (∀ j, j < l → gA τ 10 j = gA σ 10 j) ∧ (∀ i w, ws[i]? = some w → gA τ 10 (l + i) = nI w)
section OX
variable {σ τ υ : am_S} {l : Nat} {ws vs : List Nat}
theorem ox_nil (h : gS σ 9 1 = nI l) : ox σ l [] σ := ⟨gw_rfl, by simpa using h, fun _ _ => rfl, fun i w h => by simp at h⟩
theorem ox_app (h : ox σ l ws τ) (g : ox τ (l + ws.length) vs υ) : ox σ l (ws ++ vs) υ := by
  obtain ⟨h1, h2, h3, h4⟩ := h
  obtain ⟨g1, g2, g3, g4⟩ := g
  refine ⟨gw_trans h1 g1, by rw [g2, List.length_append, Nat.add_assoc], fun j hj => (g3 j (by omega)).trans (h3 j hj), fun i w hw => ?_⟩
  rcases Nat.lt_or_ge i ws.length with hi | hi
  · rw [List.getElem?_append_left hi] at hw
    rw [g3 _ (by omega)]
    exact h4 i w hw
  · rw [List.getElem?_append_right hi] at hw
    have := g4 _ w hw
    rw [show l + ws.length + (i - ws.length) = l + i by omega] at this
    exact this
theorem ox_S (h : ox σ l ws τ) : gS τ 9 1 = nI (l + ws.length) := h.2.1
theorem x_add {w d : Nat} {Q : Unit → am_S → Prop} (hl : gS σ 9 1 = nI l) (h : l < 256) (hw : w < 127) (H : ∀ τ, ox σ l [w] τ → Q () τ) : am_K ru am_Lx IX5_add (d + 1) [.ref 9, .int (nI w)] σ Q := by
  refine vX5_add ?_
  rw [hl, nI_1, nI_clamp (n := l) (by omega), by_nar w hw]
  refine pk_le 256 l (fun h => by omega) (fun _ => ⟨vp_in_nI h (by decide), H _ ⟨gw_wS (gw_wA gw_rfl (by simp)) (by simp) (by omega), wS_at _ _ _ _, fun j hj => ?_, fun i v hv => ?_⟩⟩)
  · show gA (wA σ 10 l (nI w)) 10 j = _
    exact wA_ne (by omega)
  · have hi := get_lt hv
    simp at hi
    subst hi
    simp at hv
    subst hv
    exact wA_at _ _ _ _
theorem x_letter {t d : Nat} {x : Tm} {Q : Unit → am_S → Prop} (hc : Can x) (hr : Rp σ t x) (hl : gS σ 9 1 = nI l) (h : l + (ltr (kd x) (nm x)).length ≤ 256) (H : ∀ τ, ox σ l (ltr (kd x) (nm x)) τ → Q () τ) : am_K ru am_Lx IX5_writeLetter (d + 9) [.ref 9, .ref t] σ Q := by
  obtain ⟨r1, r2, _, _⟩ := Rp_kd hr
  have hT := Rp_T hr
  obtain ⟨hk, ha⟩ := Can_kd hc
  have hlc := (Can_pts hc).2.1
  refine vX5_writeLetter ⟨hT, ?_⟩
  rw [r1, r2]
  refine pk_lt 2 (kd x) (fun h2 => ?_) (fun h2 => ⟨hT, ?_⟩)
  · have e : ltr (kd x) (nm x) = [] := by unfold ltr; rw [if_neg (by omega), if_neg (by omega), if_neg (by omega)]
    rw [e] at H
    exact H σ (ox_nil hl)
  · refine pk_le 0 (nm x) (fun _ => ⟨hT, ?_⟩) (fun h => by omega)
    have go : ∀ k w, k < 3 → nm x < am_tlen.getD k 0 → (am_tbyt.getD k []).getD (nm x) 0 = nI w → ltr (kd x) (nm x) = [w] → am_K ri am_Lx IJ0_length_8abf5 (d + 8) [.ref (am_sb + k)] σ (fun r1 σ1 => (r1 ≤ nI (nm x) → Q () σ1) ∧ (¬ r1 ≤ nI (nm x) → (am_isT am_Lx σ1 t) ∧ am_K ri am_Lx IJ0_charAt_5068e (d + 8) [.ref (am_sb + k), .int (gS σ1 t 1)] σ1 (fun r2 σ2 => am_K ru am_Lx IX5_add (d + 8) [.ref 9, .int r2] σ2 (fun _ σ3 => Q () σ3)))) := by
      intro k w hk3 hlt hb hw
      have hlen : am_tlen.getD k 0 ≤ 22 := by
        rcases (show k = 0 ∨ k = 1 ∨ k = 2 by omega) with e | e | e <;> subst e <;> decide
      refine ⟨_, _, str_len (d := d) hk3, pk_le (am_tlen.getD k 0) (nm x) (fun h => by omega) (fun _ => ⟨hT, ?_⟩)⟩
      rw [r2]
      refine ⟨_, _, str_char (d := d) hk3 hlt, ?_⟩
      rw [hb]
      rw [hw] at H h
      have hw2 : w < 127 := ltr_lt hk ha (by rw [hw]; simp)
      exact x_add (d := d + 7) hl (by simp at h; omega) hw2 H
    refine And.symm (pk_eq (kd x) 0 (fun e => ⟨hT, ?_⟩) (fun e => ⟨hT, And.symm (pk_eq (kd x) 1 (fun e1 => ⟨hT, ?_⟩) (fun e1 => ⟨hT, ?_⟩))⟩))
    · refine go 0 (if nm x < 6 then 117 + nm x else 59 + nm x) (by omega) ha ?_ (by unfold ltr; rw [if_pos e])
      have : ∀ a, a < 22 → (am_tbyt.getD 0 []).getD a 0 = nI (if a < 6 then 117 + a else 59 + a) := by decide +kernel
      exact this _ ha
    · have ha5 : nm x < 5 := by
        rcases hlc with q | q | q | q <;> omega
      refine go 1 (97 + nm x) (by omega) ha5 ?_ (by unfold ltr; rw [if_neg e, if_pos e1])
      have : ∀ a, a < 5 → (am_tbyt.getD 1 []).getD a 0 = nI (97 + a) := by decide +kernel
      exact this _ ha5
    · have e2 : kd x = 2 := by omega
      have ha3 : nm x < 3 := by
        rcases hlc with q | q | q | q <;> omega
      refine go 2 (102 + nm x) (by omega) ha3 ?_ (by unfold ltr; rw [if_neg e, if_neg e1, if_pos e2])
      have : ∀ a, a < 3 → (am_tbyt.getD 2 []).getD a 0 = nI (102 + a) := by decide +kernel
      exact this _ ha3
theorem prJ_le {k : Nat} {f : Tm → List Nat} {L : List Tm} {i : Nat} : (prJ k f (L.take i)).length ≤ (prJ k f L).length := by
  have h : ∀ (M N : List Tm), (prJ k f M).length ≤ (prJ k f (M ++ N)).length := by
    intro M N
    cases M with
    | nil => simp [prJ]
    | cons y M =>
      simp only [List.cons_append, prJ, List.flatMap_append, List.length_append]
      omega
  have := h (L.take i) (L.drop i)
  rw [List.take_append_drop] at this
  exact this
end OX
theorem x_write : ∀ x, Can x → ∀ (t dp l d : Nat) (σ : am_S) (Q : Unit → am_S → Prop), Rp σ t x → dp + x.length ≤ 40 → gS σ 9 1 = nI l → l + (pr x).length ≤ 256 → (∀ τ, ox σ l (pr x) τ → Q () τ) → am_K ru am_Lx IX5_write (d + 9 + x.length) [.ref 9, .ref t, .int (nI dp)] σ Q := by
  refine can_ind fun k a L hl hc ih t dp l d σ Q ht hdp hll hlen H => ?_
  have hx := Can_mk hl hc
  have hw : ∀ y ∈ L, wf y := fun y hy => Can_wf (hc y hy)
  have hp : pts (node k a L) = L := pts_node hw
  have hnl := node_len k a L
  have hpr := pr_eq hx
  rw [kd_node, nm_node, hp] at hpr
  rw [hpr] at hlen H
  simp only [List.length_append] at hlen
  have hbd := loc_bd hl
  obtain ⟨D, hD⟩ : ∃ D, D = d + L.flatten.length := ⟨_, rfl⟩
  rw [show d + 9 + (node k a L).length = (D + 9) + 1 by omega]
  have hLl : L.length ≤ L.flatten.length := by
    rcases Nat.eq_zero_or_pos L.length with h0 | h0
    · omega
    · have := flat_get hw (i := L.length - 1) (by omega)
      have := wf_pos (hw L[L.length - 1] (List.getElem_mem (by omega)))
      omega
  have hsep : sepc k < 127 := by
    unfold sepc
    by_cases e : k = 2
    · rw [if_pos e]; omega
    · rw [if_neg e]
      by_cases e : k = 3
      · rw [if_pos e]; omega
      · rw [if_neg e]; omega
  have loop : ∀ f3 : Int32, (f3 = 0 ↔ k ≠ 2) → ∀ m i τ, i + m = L.length → ox σ l (ltr k a ++ ((if i = 0 then [] else bo k) ++ (prJ k pr (L.take i) ++ (if i = L.length then (if L.length = 0 then [] else bc k) else [])))) τ → am_X ru am_Lx IX5_write ((D + 9) + 1) 55 [some (.ref 9), some (.ref t), some (.int (nI dp)), some (.int f3), some (.int (nI (sepc k))), some (.int (nI i)), none, none] [] τ Q := by
    intro f3 hf3 m
    induction m with
    | zero =>
      intro i τ hi g1
      have ei : i = L.length := by omega
      subst ei
      have hT := Rp_ext (gw_ext g1.1) ht
      obtain ⟨b', q1', q2', q3'⟩ := Rp_pts hT
      rw [hp] at q2' q3'
      refine vX5_write_55 ⟨Rp_T hT, o_s q1' ⟨ar_A q2', ?_⟩⟩
      rw [ar_L q2']
      refine pk_le L.length L.length (fun _ => H τ ?_) (fun h => by omega)
      rw [List.take_length, if_pos rfl] at g1
      by_cases e0 : L.length = 0
      · rw [if_pos e0, if_pos e0] at g1
        have e2 : k ≠ 2 := by
          rcases hl with q | q | q | q <;> omega
        have e3 : bo k = [] := if_neg e2
        have e4 : bc k = [] := if_neg e2
        rw [e3, e4]
        exact g1
      · rw [if_neg e0, if_neg e0] at g1
        exact g1
    | succ m ihm =>
      intro i τ hi g1
      have hiL : i < L.length := by omega
      have hmem := List.getElem_mem hiL
      have hfg := flat_get hw hiL
      have hkd := Can_kd (hc _ hmem)
      have hT := Rp_ext (gw_ext g1.1) ht
      obtain ⟨b', q1', q2', q3'⟩ := Rp_pts hT
      rw [hp] at q2' q3'
      obtain ⟨u, u1, u2⟩ := q3' i _ (List.getElem?_eq_getElem hiL)
      rw [if_neg (show ¬ i = L.length by omega), List.append_nil] at g1
      have hsn := prJ_snoc k pr L[i] (L.take i)
      rw [← take_snoc hiL] at hsn
      have hte : (L.take i = []) ↔ i = 0 := by
        constructor
        · intro e
          have := congrArg List.length e
          simp at this
          rcases this with e | e
          · exact e
          · rw [e] at hiL; simp at hiL
        · intro e
          rw [e]
          simp
      have hle := prJ_le (k := k) (f := pr) (L := L) (i := i + 1)
      generalize hsp : (if L.take i = [] then [] else [sepc k]) = sp at hsn
      have fin : ∀ ω, ox σ l (ltr k a ++ (bo k ++ (prJ k pr (L.take (i + 1)) ++ (if i + 1 = L.length then bc k else [])))) ω → am_X ru am_Lx IX5_write ((D + 9) + 1) 55 [some (.ref 9), some (.ref t), some (.int (nI dp)), some (.int f3), some (.int (nI (sepc k))), some (.int (nI i + 1)), none, none] [] ω Q := fun ω w => by
        rw [nI_1]
        refine ihm (i + 1) ω (by omega) ?_
        rw [if_neg (show ¬ i + 1 = 0 by omega), if_neg (show ¬ L.length = 0 by omega)]
        exact w
      -- the part and what closes it
      have part : ∀ (υ : am_S) (f7 : Int32), Rp υ t (node k a L) → Rp υ u L[i] → (f7 = 0 ↔ ¬ (k = 4 ∧ kd L[i] = 3)) → ox σ l (ltr k a ++ (bo k ++ (prJ k pr (L.take i) ++ (sp ++ (if k = 4 ∧ kd L[i] = 3 then [40] else []))))) υ → am_X ru am_Lx IX5_write ((D + 9) + 1) 129 [some (.ref 9), some (.ref t), some (.int (nI dp)), some (.int f3), some (.int (nI (sepc k))), some (.int (nI i)), some (.ref u), some (.int f7)] [] υ Q := by
        intro υ f7 hTυ huυ h7 w
        refine vX5_write_129_r ?_
        rw [nI_1 dp, show D + 9 = (D - L[i].length) + 9 + L[i].length by omega]
        rw [hsn] at hle fin
        unfold prB at hle fin
        refine ih _ hmem u (dp + 1) _ _ υ _ huυ (by omega) (ox_S w) ?_ (fun ω w2 => ?_)
        · simp only [List.length_append] at hle ⊢
          by_cases hbr : k = 4 ∧ kd L[i] = 3
          · rw [if_pos hbr] at hle ⊢
            simp only [List.length_append, List.length_cons, List.length_nil] at hle ⊢
            omega
          · rw [if_neg hbr] at hle ⊢
            simp only [List.length_nil] at hle ⊢
            omega
        · have w3 := ox_app w w2
          rw [show (D - L[i].length) + 9 + L[i].length = D + 9 by omega]
          have hS := ox_S w3
          have heT := gw_ext w2.1
          by_cases hbr : k = 4 ∧ kd L[i] = 3
          · refine ⟨fun _ => ?_, fun z => absurd hbr (h7.mp z)⟩
            rw [if_pos hbr] at w3 fin hle hS
            have eb : bc k = [] := if_neg (by omega)
            refine x_add (d := D + 8) (w := 41) hS ?_ (by omega) (fun ψ w4 => fin ψ ?_)
            · simp only [List.length_append, List.length_cons, List.length_nil] at hle ⊢
              omega
            · have w5 := ox_app w3 w4
              rw [eb]
              have e9 : (if i + 1 = L.length then ([] : List Nat) else []) = [] := by split <;> rfl
              rw [e9]
              simpa using w5
          · have hz : f7 = 0 := h7.mpr hbr
            refine ⟨fun z => absurd hz z, fun _ => ?_⟩
            rw [if_neg hbr] at w3 fin hle hS
            by_cases ek : k = 2
            · have hz3 : ¬ f3 = 0 := fun z => hf3.mp z ek
              refine ⟨fun z => absurd z hz3, fun _ => ?_⟩
              have hTω := Rp_ext heT hTυ
              obtain ⟨b2, r1, r2, r3⟩ := Rp_pts hTω
              rw [hp] at r2
              refine ⟨Rp_T hTω, o_s r1 ⟨ar_A r2, ?_⟩⟩
              rw [ar_L r2, show Int32.ofNat L.length - (1 : Int32) = nI (L.length - 1) by
                have := nI_pred (L.length - 1)
                rw [show L.length - 1 + 1 = L.length by omega] at this
                exact this]
              refine And.symm (pk_eq i (L.length - 1) (fun e => ?_) (fun e => ?_))
              · have ebc : bc k = [41] := if_pos ek
                rw [if_pos (show i + 1 = L.length by omega), ebc] at fin
                refine x_add (d := D + 8) (w := 41) hS ?_ (by omega) (fun ψ w4 => fin ψ ?_)
                · rw [ebc] at hlen
                  simp only [List.length_append, List.length_cons, List.length_nil] at hle hlen ⊢
                  omega
                · have w5 := ox_app w3 w4
                  simpa using w5
              · rw [if_neg (show ¬ i + 1 = L.length by omega)] at fin
                refine fin ω ?_
                simpa using w3
            · have hz3 : f3 = 0 := hf3.mpr ek
              refine ⟨fun _ => fin ω ?_, fun z => absurd hz3 z⟩
              have ebc : bc k = [] := if_neg ek
              rw [ebc]
              have e9 : (if i + 1 = L.length then ([] : List Nat) else []) = [] := by split <;> rfl
              rw [e9]
              simpa using w3
      -- what opens it
      have opn : ∀ υ : am_S, gQ υ t = some b' → isAr υ b' L.length → gP υ b' i = some u → Rp υ t (node k a L) → Rp υ u L[i] → ox σ l (ltr k a ++ ((if i = 0 then [] else bo k) ++ (prJ k pr (L.take i) ++ sp))) υ → am_X ru am_Lx IX5_write ((D + 9) + 1) 76 [some (.ref 9), some (.ref t), some (.int (nI dp)), some (.int f3), some (.int (nI (sepc k))), some (.int (nI i)), none, none] [] υ Q := by
        intro υ e1 e2 e3 hTυ huυ w
        have hS := ox_S w
        refine vX5_write_76 ⟨Rp_T hTυ, o_s e1 ⟨ar_R e2, by rw [ar_L e2]; exact vp_in_nI hiL (by omega), ?_⟩⟩
        rw [nI_clamp (n := i) (by omega)]
        refine o_s e3 ⟨Rp_T hTυ, ?_⟩
        rw [(Rp_kd hTυ).1, kd_node]
        have hkl : (prJ k pr (L.take i)).length + sp.length ≤ (prJ k pr L).length := by
          rw [hsn] at hle
          simp only [List.length_append] at hle
          omega
        have plain : ¬ (k = 4 ∧ kd L[i] = 3) → (f3 = 0 → am_X ru am_Lx IX5_write ((D + 9) + 1) 129 [some (.ref 9), some (.ref t), some (.int (nI dp)), some (.int f3), some (.int (nI (sepc k))), some (.int (nI i)), some (.ref u), some (.int (0 : Int32))] [] υ Q) ∧ (¬ f3 = 0 → (¬ nI i = 0 → am_X ru am_Lx IX5_write ((D + 9) + 1) 129 [some (.ref 9), some (.ref t), some (.int (nI dp)), some (.int f3), some (.int (nI (sepc k))), some (.int (nI i)), some (.ref u), some (.int (0 : Int32))] [] υ Q) ∧ (nI i = 0 → am_K ru am_Lx IX5_add (D + 9) [.ref 9, .int (40 : Int32)] υ (fun _ σ4 => am_X ru am_Lx IX5_write ((D + 9) + 1) 129 [some (.ref 9), some (.ref t), some (.int (nI dp)), some (.int f3), some (.int (nI (sepc k))), some (.int (nI i)), some (.ref u), some (.int (0 : Int32))] [] σ4 Q))) := by
          intro hbr
          refine ⟨fun z => part υ 0 hTυ huυ ⟨fun _ => hbr, fun _ => rfl⟩ ?_, fun z => ?_⟩
          · have ek : k ≠ 2 := hf3.mp z
            have ebo : bo k = [] := if_neg ek
            rw [if_neg hbr, ebo]
            rw [ebo] at w
            simpa using w
          · have ek : k = 2 := Classical.byContradiction fun e => z (hf3.mpr e)
            have ebo : bo k = [40] := if_pos ek
            refine And.symm (pk_eq i 0 (fun e => ?_) (fun e => part υ 0 hTυ huυ ⟨fun _ => hbr, fun _ => rfl⟩ ?_))
            · refine x_add (d := D + 8) (w := 40) hS ?_ (by omega) (fun ω w2 => part ω 0 (Rp_ext (gw_ext w2.1) hTυ) (Rp_ext (gw_ext w2.1) huυ) ⟨fun _ => hbr, fun _ => rfl⟩ ?_)
              · rw [if_pos e]
                rw [ebo] at hlen
                simp only [List.length_append, List.length_cons, List.length_nil] at hlen ⊢
                omega
              · have w3 := ox_app w w2
                rw [if_pos e] at w3
                have esp : sp = [] := by rw [← hsp, if_pos (hte.mpr e)]
                have ej : prJ k pr (L.take i) = [] := by rw [hte.mpr e]; rfl
                rw [if_neg hbr, ebo, esp, ej]
                rw [esp, ej] at w3
                simpa using w3
            · rw [if_neg e] at w
              rw [if_neg hbr]
              simpa using w
        refine And.symm (pk_eq k 4 (fun e => ⟨Rp_T huυ, ?_⟩) (fun e => plain fun z => e z.1))
        rw [(Rp_kd huυ).1]
        refine And.symm (pk_eq (kd L[i]) 3 (fun e3' => ?_) (fun e3' => plain fun z => e3' z.2))
        have hbr : k = 4 ∧ kd L[i] = 3 := ⟨e, e3'⟩
        have ebo : bo k = [] := if_neg (by omega)
        have hple : (prJ k pr (L.take i)).length + sp.length + 1 ≤ (prJ k pr L).length := by
          rw [hsn] at hle
          unfold prB at hle
          rw [if_pos hbr] at hle
          simp only [List.length_append, List.length_cons, List.length_nil] at hle
          omega
        refine x_add (d := D + 8) (w := 40) hS ?_ (by omega) (fun ω w2 => part ω 1 (Rp_ext (gw_ext w2.1) hTυ) (Rp_ext (gw_ext w2.1) huυ) ⟨fun z => absurd z (by decide), fun z => absurd hbr z⟩ ?_)
        · rw [ebo]
          have e9 : (if i = 0 then ([] : List Nat) else []) = [] := by split <;> rfl
          rw [e9]
          simp only [List.length_append, List.length_nil] at hlen ⊢
          omega
        · have w3 := ox_app w w2
          rw [if_pos hbr, ebo]
          rw [ebo] at w3
          simpa using w3
      refine vX5_write_55 ⟨Rp_T hT, o_s q1' ⟨ar_A q2', ?_⟩⟩
      rw [ar_L q2']
      refine pk_le L.length i (fun h => by omega) (fun _ => ?_)
      refine pk_le i 0 (fun h => ?_) (fun h => ?_)
      · refine opn τ q1' q2' u1 hT u2 ?_
        have esp : sp = [] := by rw [← hsp, if_pos (hte.mpr (by omega))]
        rw [esp, List.append_nil]
        exact g1
      · have esp : sp = [sepc k] := by rw [← hsp, if_neg (fun z => by have := hte.mp z; omega)]
        refine x_add (d := D + 8) (ox_S g1) ?_ hsep (fun ω w2 => ?_)
        · rw [hsn, esp] at hle
          rw [if_neg (show ¬ i = 0 by omega)]
          simp only [List.length_append, List.length_cons, List.length_nil] at hle hlen ⊢
          omega
        · have we := gw_ext w2.1
          have hb5 := (we.2 b' q2'.1 q2'.2.1)
          have hu := (we.2 t (Rp_T hT).1 (Rp_T hT).2.1)
          refine opn ω (by rw [hu.2.2.1]; exact q1') (isAr_ext we q2') (by rw [hb5.2.2.2.2]; exact u1) (Rp_ext we hT) (Rp_ext we u2) ?_
          have w3 := ox_app g1 w2
          rw [esp]
          simpa using w3
  refine vX5_write (pk_lt dp 40 (fun _ => ?_) (fun h => by omega))
  have hlt : l + (ltr (kd (node k a L)) (nm (node k a L))).length ≤ 256 := by
    rw [kd_node, nm_node]
    omega
  refine x_letter (d := D) hx ht hll hlt (fun τ w => ?_)
  rw [kd_node, nm_node] at w
  have hT := Rp_ext (gw_ext w.1) ht
  have st : ox σ l (ltr k a ++ ((if 0 = 0 then [] else bo k) ++ (prJ k pr (L.take 0) ++ (if 0 = L.length then (if L.length = 0 then [] else bc k) else [])))) τ := by
    have e9 : (if 0 = L.length then (if L.length = 0 then ([] : List Nat) else bc k) else []) = [] := by
      by_cases e : L.length = 0
      · rw [if_pos e.symm, if_pos e]
      · rw [if_neg (fun z => e z.symm)]
    rw [e9]
    simpa [prJ] using w
  refine ⟨Rp_T hT, ?_⟩
  rw [(Rp_kd hT).1, kd_node]
  refine And.symm (pk_eq k 2 (fun e => ?_) (fun e => ⟨Rp_T hT, And.symm (pk_eq k 3 (fun e3 => ?_) (fun e3 => ?_))⟩))
  · have := loop 1 ⟨fun z => absurd z (by decide), fun z => absurd e z⟩ L.length 0 τ (by omega) st
    have es : sepc k = 44 := if_pos e
    rw [es] at this
    exact this
  · have := loop 0 ⟨fun _ => e, fun _ => rfl⟩ L.length 0 τ (by omega) st
    have es : sepc k = 43 := by unfold sepc; rw [if_neg e, if_pos e3]
    rw [es] at this
    exact this
  · have := loop 0 ⟨fun _ => e, fun _ => rfl⟩ L.length 0 τ (by omega) st
    have es : sepc k = 42 := by unfold sepc; rw [if_neg e, if_neg e3]
    rw [es] at this
    exact this
