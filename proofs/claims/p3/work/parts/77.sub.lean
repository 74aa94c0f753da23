/-! ===== putting terms for variables ===== -/
noncomputable def subF : Nat → (Nat → Tm) → Tm → Tm
  | 0, _, x => x
  | n + 1, θ, x => if kd x = 0 then θ (nm x) else if kd x = 1 then x else if kd x = 2 then node 2 (nm x) ((pts x).map (subF n θ)) else joinT (kd x) ((pts x).map (subF n θ))
noncomputable def sub (θ : Nat → Tm) (x : Tm) : Tm := subF x.length θ x
section SU
variable {θ : Nat → Tm}
theorem map_eq {α β : Type} {f g : α → β} {l : List α} (h : ∀ x ∈ l, f x = g x) : l.map f = l.map g := List.map_congr_left h
theorem pts_len {x y : Tm} (h : Can x) (hy : y ∈ pts x) : y.length < x.length := by
  have e := (Can_pts h).1
  rw [e]
  exact part_len hy
theorem subF_eq : ∀ (n m : Nat) (x : Tm), Can x → x.length ≤ n → x.length ≤ m → subF n θ x = subF m θ x
  | 0, _, x, h, h1, _ => by have := wf_pos (Can_wf h); omega
  | _ + 1, 0, x, h, _, h1 => by have := wf_pos (Can_wf h); omega
  | n + 1, m + 1, x, h, h1, h2 => by
    have e : (pts x).map (subF n θ) = (pts x).map (subF m θ) := map_eq fun y hy => subF_eq n m y ((Can_pts h).2.2 y hy) (by have := pts_len h hy; omega) (by have := pts_len h hy; omega)
    unfold subF
    rw [e]
theorem sub_eq {x : Tm} (h : Can x) : sub θ x = if kd x = 0 then θ (nm x) else if kd x = 1 then x else if kd x = 2 then node 2 (nm x) ((pts x).map (sub θ)) else joinT (kd x) ((pts x).map (sub θ)) := by
  have h1 := wf_pos (Can_wf h)
  unfold sub
  rw [show x.length = (x.length - 1) + 1 by omega]
  have e : (pts x).map (subF (x.length - 1) θ) = (pts x).map (fun y => subF y.length θ y) := map_eq fun y hy => subF_eq _ _ y ((Can_pts h).2.2 y hy) (by have := pts_len h hy; omega) (Nat.le_refl _)
  rw [subF, e]
theorem sub_can (hθ : ∀ v, v < 22 → Can (θ v)) : ∀ x, Can x → Can (sub θ x) := by
  refine can_ind fun k a L hl hc ih => ?_
  have hx := Can_mk hl hc
  have hp : pts (node k a L) = L := pts_node fun y hy => Can_wf (hc y hy)
  rw [sub_eq hx, kd_node, nm_node, hp]
  rcases hl with ⟨rfl, h2, h3⟩ | ⟨rfl, h2, h3⟩ | ⟨rfl, h2, h3, h4⟩ | ⟨h1, h2, h3, h4⟩
  · rw [if_pos rfl]; exact hθ a h2
  · rw [if_neg (by omega), if_pos rfl]; exact hx
  · rw [if_neg (by omega), if_neg (by omega), if_pos rfl]
    refine Can_mk (Or.inr (Or.inr (Or.inl ⟨rfl, h2, by simpa using h3, by simpa using h4⟩))) fun y hy => ?_
    obtain ⟨z, hz, e⟩ := List.mem_map.mp hy
    rw [← e]; exact ih z hz
  · rw [if_neg (by omega), if_neg (by omega), if_neg (by omega)]
    refine Can_join h1 (fun y hy => ?_) (fun e => ?_)
    · obtain ⟨z, hz, e⟩ := List.mem_map.mp hy
      rw [← e]; exact ih z hz
    · have := congrArg List.length e
      simp at this
      rw [this] at h3
      simp at h3
theorem flK_self {k : Nat} : ∀ {L : List Tm}, (∀ y ∈ L, kd y ≠ k) → flK k L = L
  | [], _ => rfl
  | x :: L, h => by
    rw [show flK k (x :: L) = fl1 k x ++ flK k L from List.flatMap_cons, fl1_ne (h x List.mem_cons_self), flK_self fun y hy => h y (List.mem_cons_of_mem _ hy)]
    rfl
theorem vb_flat {L : List Tm} (h : vb L.flatten = 0) : ∀ y ∈ L, vb y = 0 := by
  induction L with
  | nil => simp
  | cons x L ih =>
    rw [List.flatten_cons, vb_app] at h
    have := Nat.or_eq_zero_iff.mp h
    intro y hy
    rcases List.mem_cons.mp hy with e | hy
    · rw [e]; exact this.1
    · exact ih this.2 y hy
theorem vb_node (k a : Nat) (L : List Tm) : vb (node k a L) = (if k = 0 then 2 ^ a else 0) ||| vb L.flatten := rfl
theorem sub_ground : ∀ x, Can x → vb x = 0 → sub θ x = x := by
  refine can_ind fun k a L hl hc ih hv => ?_
  have hx := Can_mk hl hc
  have hp : pts (node k a L) = L := pts_node fun y hy => Can_wf (hc y hy)
  rw [vb_node] at hv
  have hv2 := Nat.or_eq_zero_iff.mp hv
  have hm : L.map (sub θ) = L := by
    have : L.map (sub θ) = L.map id := map_eq fun y hy => ih y hy (vb_flat hv2.2 y hy)
    rw [this, List.map_id]
  rw [sub_eq hx, kd_node, nm_node, hp, hm]
  rcases hl with ⟨rfl, h2, h3⟩ | ⟨rfl, h2, h3⟩ | ⟨rfl, h2, h3, h4⟩ | ⟨h1, h2, h3, h4, h5⟩
  · rw [if_pos rfl] at hv2
    have := Nat.two_pow_pos a
    omega
  · rw [if_neg (by omega), if_pos rfl]
  · rw [if_neg (by omega), if_neg (by omega), if_pos rfl]
  · rw [if_neg (by omega), if_neg (by omega), if_neg (by omega), joinT_two h1 hc h3, flK_self h5, srt_self h4, h2]
theorem vb_lt : ∀ x, Can x → vb x < 2 ^ 22 := by
  have fl : ∀ L : List Tm, (∀ y ∈ L, vb y < 2 ^ 22) → vb L.flatten < 2 ^ 22 := by
    intro L
    induction L with
    | nil => intro _; decide
    | cons x L ih =>
      intro h
      rw [List.flatten_cons, vb_app]
      exact Nat.or_lt_two_pow (h x List.mem_cons_self) (ih fun y hy => h y (List.mem_cons_of_mem _ hy))
  refine can_ind fun k a L hl hc ih => ?_
  rw [vb_node]
  refine Nat.or_lt_two_pow ?_ (fl L ih)
  by_cases e : k = 0
  · rw [if_pos e]
    have := (loc_bd hl).2
    exact Nat.pow_lt_pow_right (by decide) (by omega)
  · rw [if_neg e]
    decide
end SU
theorem flat_get {L : List Tm} (hw : ∀ y ∈ L, wf y) {i : Nat} (hi : i < L.length) : i + L[i].length ≤ L.flatten.length := by
  induction L generalizing i with
  | nil => simp at hi
  | cons x L ih =>
    have h1 := wf_pos (hw x List.mem_cons_self)
    rw [List.flatten_cons, List.length_append]
    cases i with
    | zero => simp
    | succ i =>
      have := ih (fun y hy => hw y (List.mem_cons_of_mem _ hy)) (i := i) (by simpa using hi)
      simp only [List.getElem_cons_succ]
      omega
theorem x_push {σ : am_S} {mk d : Nat} {o : Option Nat} {Q : Unit → am_S → Prop} {x : Tm} (hm : mk < 128) (ht : gS σ 3 3 = nI mk) (hr : Ro σ o x) (H : Q () (wS (wP σ 5 mk o) 3 3 (nI (mk + 1)))) : (o = none → am_K ru am_Lx IX2_push (d + 1) [.ref 3, .null] σ Q) ∧ (∀ t, o = some t → am_K ru am_Lx IX2_push (d + 1) [.ref 3, .ref t] σ Q) := by
  constructor
  · intro e
    subst e
    refine vX2_push_n ?_
    rw [ht, nI_1, nI_clamp (n := mk) (by omega)]
    exact pk_le 128 mk (fun h => by omega) (fun _ => ⟨vp_in_nI hm (by decide), H⟩)
  · intro t e
    subst e
    refine vX2_push_r ?_
    rw [ht, nI_1, nI_clamp (n := mk) (by omega)]
    exact pk_le 128 mk (fun h => by omega) (fun _ => ⟨vp_in_nI hm (by decide), Rp_T (Ro_some hr).2, H⟩)
theorem x_replaced {θ : Nat → Tm} : ∀ x, Can x → ∀ (t dp mk d : Nat) (σ : am_S) (Q : Option Nat → am_S → Prop), fits x → Rp σ t x → dp + x.length ≤ 40 → mk + x.length ≤ 128 → gS σ 3 3 = nI mk → (∀ v, v < 22 → Ro σ (gP σ 2 v) (θ v)) → bud (2 * x.length) (13 * x.length) σ → (∀ o τ, gw [(3, 3)] [] [] [5, 6] (2 * x.length) (13 * x.length) σ τ → gS τ 3 3 = nI mk → (∀ i, i < mk → gP τ 5 i = gP σ 5 i) → Ro τ o (sub θ x) → Q o τ) → am_K rn am_Lx IX2_replaced (d + 43 + x.length) [.ref 3, .ref t, .ref 2, .int (nI dp)] σ Q := by
  refine can_ind fun k a L hl hc ih t dp mk d σ Q hf ht hdp hmk htop hθ hb H => ?_
  have hx := Can_mk hl hc
  have hw : ∀ y ∈ L, wf y := fun y hy => Can_wf (hc y hy)
  have hp : pts (node k a L) = L := pts_node hw
  have hlen := node_len k a L
  obtain ⟨s1, s2, s3, s4⟩ := Rp_kd ht
  rw [kd_node] at s1
  rw [nm_node] at s2
  have hvb := vb_lt _ hx
  obtain ⟨b, q1, q2, q3⟩ := Rp_pts ht
  rw [hp] at q2 q3
  have hbd := loc_bd hl
  have hfp := fits_part hf
  rw [show d + 43 + (node k a L).length = (d + 43 + L.flatten.length) + 1 by omega]
  refine vX2_replaced ⟨Rp_T ht, ?_⟩
  rw [s4, s1, s2]
  refine And.symm (pk_eq (vb (node k a L)) 0 (fun h => ?_) (fun h => ?_))
  · refine H _ σ gw_rfl htop (fun _ _ => rfl) ⟨sub_can (fun v hv => (hθ v hv).1) _ hx, Or.inl ?_⟩
    rw [sub_ground _ hx h]
    exact ⟨hf, t, rfl, ht⟩
  refine pk_lt dp 40 (fun _ => ⟨Rp_T ht, And.symm (pk_eq k 0 (fun e => ?_) (fun e => ?_))⟩) (fun h => by omega)
  · -- a variable
    refine ⟨Rp_T ht, pk_le 22 a (fun h => by omega) (fun _ => ⟨Rp_T ht, vp_in_nI (by omega) (by decide), ?_⟩)⟩
    rw [nI_clamp (n := a) (by omega)]
    have hr := hθ a (by omega)
    have es : sub θ (node k a L) = θ a := by rw [sub_eq hx, kd_node, if_pos e, nm_node]
    constructor
    · intro z
      rw [z] at hr
      exact H none σ gw_rfl htop (fun _ _ => rfl) (by rw [es]; exact hr)
    · intro u z
      rw [z] at hr
      exact H _ σ gw_rfl htop (fun _ _ => rfl) (by rw [es]; exact hr)
  · -- the parts
    have hk1 : k ≠ 1 := by
      intro e1
      rcases hl with h2 | h2 | h2 | h2
      · omega
      · apply h
        rw [h2.2.2, e1]
        simp [node, vb]
      · omega
      · omega
    have hLl : L.length ≤ L.flatten.length := by
      rcases Nat.eq_zero_or_pos L.length with h0 | h0
      · omega
      · have := flat_get hw (i := L.length - 1) (by omega)
        have := wf_pos (hw L[L.length - 1] (List.getElem_mem (by omega)))
        omega
    have hL1 : 1 ≤ L.length := by
      rcases hl with h2 | h2 | h2 | h2 <;> omega
    have loop : ∀ m i τ, i + m = L.length → gw [(3, 3)] [] [] [5, 6] (2 * (L.take i).flatten.length) (13 * (L.take i).flatten.length) σ τ → gS τ 3 3 = nI (mk + i) → (∀ j, j < mk → gP τ 5 j = gP σ 5 j) → (∀ j y, j < i → L[j]? = some y → Ro τ (gP τ 5 (mk + j)) (sub θ y)) → am_X rn am_Lx IX2_replaced ((d + 43 + L.flatten.length) + 1) 53 [some (.ref 3), some (.ref t), some (.ref 2), some (.int (nI dp)), some (.int (nI mk)), some (.int (nI i))] [] τ Q := by
      intro m
      induction m with
      | zero =>
        intro i τ hi g1 g2 g3 g4
        have ei : i = L.length := by omega
        subst ei
        have ge := gw_ext g1
        have hT := Rp_ext ge ht
        obtain ⟨s1', s2', _, _⟩ := Rp_kd hT
        rw [kd_node] at s1'
        rw [nm_node] at s2'
        obtain ⟨b', q1', q2', q3'⟩ := Rp_pts hT
        rw [hp] at q2' q3'
        rw [List.take_length] at g1
        have bu := bud_gw (c := 2 * L.flatten.length) (s := 13 * L.flatten.length) (c' := 2) (s' := 13) (by rw [node_len] at hb; exact bud_mono hb (by omega) (by omega)) g1
        have hent : ∀ i y, (L.map (sub θ))[i]? = some y → Ro τ (gP τ 5 (mk + i)) y := by
          intro i y hy
          rw [List.getElem?_map] at hy
          cases hz : L[i]? with
          | none => rw [hz] at hy; cases hy
          | some z =>
            rw [hz] at hy
            cases hy
            exact g4 i z (get_lt hz) hz
        have fin : ∀ o υ, gw [(3, 3)] [] [] [6] 2 13 τ υ → gS υ 3 3 = nI mk → Ro υ o (sub θ (node k a L)) → Q o υ := fun o υ w1 w2 w3 => by
          have w4 := gw_trans g1 (gw_mono (S' := [(3, 3)]) (A' := []) (J' := []) (P' := [5, 6]) w1 (fun _ h => h) (fun _ h => h) (fun _ h => h) (by simp) (Nat.le_refl _) (Nat.le_refl _))
          refine H o υ (gw_mono w4 (fun _ h => h) (fun _ h => h) (fun _ h => h) (fun _ h => h) (by omega) (by omega)) w2 (fun j hj => ?_) w3
          rw [gw_P w1 (by omega) (by simp)]
          exact g3 j hj
        refine vX2_replaced_53 ⟨Rp_T hT, o_s q1' ⟨ar_A q2', ?_⟩⟩
        rw [ar_L q2']
        refine pk_le L.length L.length (fun _ => ⟨Rp_T hT, ?_⟩) (fun h => by omega)
        rw [s1', s2']
        refine And.symm (pk_eq k 2 (fun e2 => ⟨Rp_T hT, ?_⟩) (fun e2 => ⟨Rp_T hT, ?_⟩))
        · have es : sub θ (node k a L) = node 2 a (L.map (sub θ)) := by rw [sub_eq hx, kd_node, nm_node, hp, if_neg e, if_neg hk1, if_pos e2]
          rw [es] at fin
          have hl3 : a < 3 ∧ L.length ≤ 3 := by
            rcases hl with h2 | h2 | h2 | h2 <;> omega
          refine x_function (d := d + 41 + L.flatten.length) (L := L.map (sub θ)) (by simpa using hL1) (by simpa using hl3.2) hl3.1 (by simp; omega) (by simpa using g2) hent (bud_mono bu (by omega) (by omega)) (fun o υ w1 w2 w3 => ?_) |> fun z => (by rw [show d + 41 + L.flatten.length + 2 = d + 43 + L.flatten.length by omega] at z; exact z)
          have := fin o υ (gw_mono w1 (fun _ h => h) (fun _ h => h) (fun _ h => h) (by simp) (by omega) (by omega)) w2 w3
          exact ⟨fun z => (by subst z; exact this), fun u z => (by subst z; exact this)⟩
        · have hk34 : k = 3 ∨ k = 4 := by
            rcases hl with h2 | h2 | h2 | h2
            · omega
            · omega
            · omega
            · exact h2.1
          have es : sub θ (node k a L) = joinT k (L.map (sub θ)) := by rw [sub_eq hx, kd_node, nm_node, hp, if_neg e, if_neg hk1, if_neg e2]
          rw [es] at fin
          refine x_together (d := d + L.flatten.length) (xs := L.map (sub θ)) hk34 (fun z => by have := congrArg List.length z; simp at this; rw [this] at hL1; simp at hL1) (by simp; omega) (by simpa using g2) hent bu (fun o υ w1 w2 w3 => ?_) |> fun z => (by rw [show d + L.flatten.length + 43 = d + 43 + L.flatten.length by omega] at z; exact z)
          have := fin o υ w1 w2 w3
          exact ⟨fun z => (by subst z; exact this), fun u z => (by subst z; exact this)⟩
      | succ m ihm =>
        intro i τ hi g1 g2 g3 g4
        have hiL : i < L.length := by omega
        have hmem := List.getElem_mem hiL
        have hfg := flat_get hw hiL
        have ge := gw_ext g1
        have hT := Rp_ext ge ht
        obtain ⟨b', q1', q2', q3'⟩ := Rp_pts hT
        rw [hp] at q2' q3'
        obtain ⟨u, u1, u2⟩ := q3' i _ (List.getElem?_eq_getElem hiL)
        have htl : (L.take (i + 1)).flatten.length = (L.take i).flatten.length + L[i].length := by
          rw [take_snoc hiL, List.flatten_append, List.length_append]
          simp
        have htle : (L.take (i + 1)).flatten.length ≤ L.flatten.length := by
          have : L.flatten = (L.take (i + 1)).flatten ++ (L.drop (i + 1)).flatten := by rw [← List.flatten_append, List.take_append_drop]
          rw [this, List.length_append]
          omega
        refine vX2_replaced_53 ⟨Rp_T hT, o_s q1' ⟨ar_A q2', ?_⟩⟩
        rw [ar_L q2']
        refine pk_le L.length i (fun h => by omega) (fun _ => ⟨Rp_T hT, o_s q1' ⟨ar_R q2', by rw [ar_L q2']; exact vp_in_nI hiL (by omega), ?_⟩⟩)
        rw [nI_clamp (n := i) (by omega), nI_1, nI_1]
        refine o_s u1 ?_
        rw [show d + 43 + L.flatten.length = (d + L.flatten.length - L[i].length) + 43 + L[i].length by omega]
        have bu := bud_gw (c := 2 * (L.take i).flatten.length) (s := 13 * (L.take i).flatten.length) (c' := 2 * L[i].length) (s' := 13 * L[i].length) (by rw [node_len] at hb; exact bud_mono hb (by omega) (by omega)) g1
        refine ih _ hmem u (dp + 1) (mk + i) (d + L.flatten.length - L[i].length) τ _ (hfp _ hmem) u2 (by omega) (by omega) g2 (fun v hv => ?_) bu (fun o υ w1 w2 w3 w4 => ?_)
        · rw [gw_P g1 (by omega) (by simp)]
          exact Ro_ext (hθ v hv) ge
        · have w5 := gw_trans g1 w1
          have go : am_X rn am_Lx IX2_replaced (d + 43 + L.flatten.length + 1) 53 [some (.ref 3), some (.ref t), some (.ref 2), some (.int (nI dp)), some (.int (nI mk)), some (.int (nI (i + 1)))] [] (wS (wP υ 5 (mk + i) o) 3 3 (nI (mk + i + 1))) Q := by
            have f0 : ext υ (wS (wP υ 5 (mk + i) o) 3 3 (nI (mk + i + 1))) := gw_ext (gw_wS (gw_wP (S := [(3, 3)]) (A := []) (J := []) (P := [5]) (c := 0) (s := 0) gw_rfl (by simp) (by omega)) (by simp) (by omega))
            refine ihm (i + 1) _ (by omega) (gw_mono (gw_wS (gw_wP w5 (by simp) (by omega)) (by simp) (by omega)) (fun _ h => h) (fun _ h => h) (fun _ h => h) (fun _ h => h) (by omega) (by omega)) (wS_at _ _ _ _) (fun j hj => ?_) (fun j y hj hy => ?_)
            · show gP (wP υ 5 (mk + i) o) 5 j = _
              rw [wP_ne (by omega), w3 j (by omega)]
              exact g3 j hj
            · show Ro _ (gP (wP υ 5 (mk + i) o) 5 (mk + j)) _
              by_cases e2 : j = i
              · subst e2
                rw [List.getElem?_eq_getElem hiL] at hy
                cases hy
                rw [wP_at]
                exact Ro_ext w4 f0
              · rw [wP_ne (by omega), w3 (mk + j) (by omega)]
                exact Ro_ext (g4 j y (by omega) hy) (ext_trans (gw_ext w1) f0)
          rw [show (d + L.flatten.length - L[i].length) + 43 + L[i].length = d + 43 + L.flatten.length by omega]
          have := x_push (d := d + 42 + L.flatten.length) (mk := mk + i) (Q := fun _ σ9 => am_X rn am_Lx IX2_replaced (d + 43 + L.flatten.length + 1) 53 [some (.ref 3), some (.ref t), some (.ref 2), some (.int (nI dp)), some (.int (nI mk)), some (.int (nI (i + 1)))] [] σ9 Q) (by omega) w2 w4 go
          rw [show d + 42 + L.flatten.length + 1 = d + 43 + L.flatten.length by omega] at this
          exact this
    rw [htop]
    refine loop L.length 0 σ (by omega) ?_ (by simpa using htop) (fun _ _ => rfl) (fun j y hj => absurd hj (Nat.not_lt_zero _))
    exact gw_rfl
