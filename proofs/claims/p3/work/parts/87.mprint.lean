/-! ===== print, out: the reference ===== -/
def om (σ : am_S) (l : Nat) (ws : List Nat) (τ : am_S) : Prop := fr [(0, 15)] [8] [] [] σ τ ∧ gS τ 0 15 = nI (l + ws.length) ∧ (∀ j, j < l → gA τ 8 j = gA σ 8 j) ∧ (∀ i w, ws[i]? = some w → gA τ 8 (l + i) = nI w)
section OM
variable {σ τ υ : am_S} {l : Nat} {ws vs : List Nat}
theorem om_nil (h : gS σ 0 15 = nI l) : om σ l [] σ := ⟨fr_rfl, by simpa using h, fun _ _ => rfl, fun i w h => by simp at h⟩
theorem om_app (h : om σ l ws τ) (g : om τ (l + ws.length) vs υ) : om σ l (ws ++ vs) υ := by
  obtain ⟨h1, h2, h3, h4⟩ := h
  obtain ⟨g1, g2, g3, g4⟩ := g
  refine ⟨fr_trans h1 g1, by rw [g2, List.length_append, Nat.add_assoc], fun j hj => (g3 j (by omega)).trans (h3 j hj), fun i w hw => ?_⟩
  rcases Nat.lt_or_ge i ws.length with hi | hi
  · rw [List.getElem?_append_left hi] at hw
    rw [g3 _ (by omega)]
    exact h4 i w hw
  · rw [List.getElem?_append_right hi] at hw
    have := g4 _ w hw
    rw [show l + ws.length + (i - ws.length) = l + i by omega] at this
    exact this
theorem om_S (h : om σ l ws τ) : gS τ 0 15 = nI (l + ws.length) := h.2.1
theorem om_seg {p : Nat} {x : Tm} (h : om σ l ws τ) (g : seg σ p x) : seg τ p x := seg_move (fun a h1 h4 i _ => by rw [h.1.2.1 a (by simp; omega)]) g
theorem m_write1 {w d : Nat} {Q : Unit → am_S → Prop} (hl : gS σ 0 15 = nI l) (h : l < 400) (H : ∀ τ, om σ l [w] τ → Q () τ) : am_K ru am_Lm IX11_write (d + 1) [.ref 0, .int (nI w)] σ Q := by
  refine vX11_write ?_
  rw [hl, nI_1, nI_clamp (n := l) (by omega)]
  refine ⟨vp_in_nI h (by decide), H _ ⟨fr_wS (fr_wA fr_rfl (by simp)) (by simp), wS_at _ _ _ _, fun j hj => ?_, fun i v hv => ?_⟩⟩
  · show gA (wA σ 8 l (nI w)) 8 j = _
    exact wA_ne (by omega)
  · have hi := get_lt hv
    simp at hi
    subst hi
    simp at hv
    subst hv
    exact wA_at _ _ _ _
end OM
theorem m_writeTerm : ∀ x, Can x → ∀ (p l d : Nat) (fp : Int32) (σ : am_S) (Q : Unit → am_S → Prop), (fp = 0 ∨ fp = 1) → seg σ p x → p + x.length ≤ 70000 → gS σ 0 15 = nI l → l + (pr x).length + 2 * x.length ≤ 400 → (∀ τ, om σ l (if ¬ fp = 0 ∧ kd x = 3 then [40] ++ pr x ++ [41] else pr x) τ → Q () τ) → am_K ru am_Lm IX11_writeTerm (d + 1 + x.length) [.ref 0, .int (nI p), .int fp] σ Q := by
  refine can_ind fun k a L hl hc ih p l d fp σ Q hfp hs hp70 hll hlen H => ?_
  have hx := Can_mk hl hc
  have hw : ∀ y ∈ L, wf y := fun y hy => Can_wf (hc y hy)
  have hp : pts (node k a L) = L := pts_node hw
  have hnl := node_len k a L
  have hpr := pr_eq hx
  rw [kd_node, nm_node, hp] at hpr
  rw [kd_node] at H
  rw [hpr] at hlen H
  simp only [List.length_append] at hlen
  have hbd := loc_bd hl
  have hwx : wf (node k a L) := Can_wf hx
  obtain ⟨D, hD⟩ : ∃ D, D = d + L.flatten.length := ⟨_, rfl⟩
  rw [show d + 1 + (node k a L).length = (D + 1) + 1 by omega]
  have hin : vp_in (nI p) 70000 := vp_in_nI (by omega) (by decide)
  have hLl : L.length ≤ L.flatten.length := by
    rcases Nat.eq_zero_or_pos L.length with h0 | h0
    · omega
    · have := flat_get hw (i := L.length - 1) (by omega)
      have := wf_pos (hw L[L.length - 1] (List.getElem_mem (by omega)))
      omega
  -- behind the opening bracket, if there is one
  have main : ∀ (pre suf : List Nat) (f3 : Int32) (τ : am_S), (f3 = 0 → suf = bc k) → (¬ f3 = 0 → suf = [41] ∧ bc k = []) → pre.length ≤ 1 → om σ l pre τ → (∀ ω, om σ l (pre ++ (ltr k a ++ (bo k ++ (prJ k pr L ++ suf)))) ω → Q () ω) → am_X ru am_Lm IX11_writeTerm ((D + 1) + 1) 30 [some (.ref 0), some (.int (nI p)), some (.int fp), some (.int f3), none, none] [] τ Q := by
    intro pre suf f3 τ hs0 hs1 hpre w HQ
    have loop : ∀ m i υ, i + m = L.length → om σ l (pre ++ (ltr k a ++ (bo k ++ prJ k pr (L.take i)))) υ → am_X ru am_Lm IX11_writeTerm ((D + 1) + 1) 141 [some (.ref 0), some (.int (nI p)), some (.int fp), some (.int f3), some (.int (nI (p + 1 + off L i))), some (.int (nI i))] [] υ Q := by
      intro m
      induction m with
      | zero =>
        intro i υ hi g1
        have ei : i = L.length := by omega
        subst ei
        rw [List.take_length] at g1
        obtain ⟨s1, s2, s3, s4⟩ := seg_kd hwx (om_seg g1 hs)
        rw [kd_node] at s1
        rw [hp] at s3
        have hS := om_S g1
        refine vX11_writeTerm_141 ⟨hin, ?_⟩
        rw [nI_clamp (n := p) (by omega), s1, s3]
        refine pk_le L.length L.length (fun _ => ?_) (fun h => by omega)
        have hlen2 : ∀ {bcl : List Nat}, bcl.length ≤ 1 → l + (pre ++ (ltr k a ++ (bo k ++ prJ k pr L))).length < 400 := fun _ => by
          simp only [List.length_append]
          omega
        by_cases e3 : f3 = 0
        · refine ⟨fun z => absurd e3 z, fun _ => ⟨hin, And.symm (pk_eq k 2 (fun e => ?_) (fun e => ?_))⟩⟩
          · have ebc : bc k = [41] := if_pos e
            refine m_write1 (d := D) (w := 41) hS (hlen2 (bcl := []) (by simp)) (fun ω w2 => HQ ω ?_)
            have w3 := om_app g1 w2
            rw [hs0 e3, ebc]
            simpa using w3
          · have ebc : bc k = [] := if_neg e
            refine HQ υ ?_
            rw [hs0 e3, ebc]
            simpa using g1
        · refine ⟨fun _ => ?_, fun z => absurd z e3⟩
          refine m_write1 (d := D) (w := 41) hS (hlen2 (bcl := []) (by simp)) (fun ω w2 => HQ ω ?_)
          have w3 := om_app g1 w2
          rw [(hs1 e3).1]
          simpa using w3
      | succ m ihm =>
        intro i υ hi g1
        have hiL : i < L.length := by omega
        have hmem := List.getElem_mem hiL
        have hfg := flat_get hw hiL
        obtain ⟨s1, s2, s3, s4⟩ := seg_kd hwx (om_seg g1 hs)
        rw [kd_node] at s1
        rw [hp] at s3
        have o1 := off_s hiL
        have o2 := off_le L (i + 1)
        have hwp := wf_pos (hw _ hmem)
        have hsn := prJ_snoc k pr L[i] (L.take i)
        rw [← take_snoc hiL] at hsn
        have hte : (L.take i = []) ↔ i = 0 := by
          constructor
          · intro e
            have := congrArg List.length e
            simp at this
            rcases this with e | e
            · exact e
            · rw [e] at hiL; simp at hiL
          · intro e
            rw [e]
            simp
        have hle := prJ_le (k := k) (f := pr) (L := L) (i := i + 1)
        generalize hsp : (if L.take i = [] then [] else [sepc k]) = sp at hsn
        -- the part
        have part : ∀ (ψ : am_S) (f : Int32), (f = 0 ∨ f = 1) → (f = 0 ↔ ¬ k = 4) → om σ l (pre ++ (ltr k a ++ (bo k ++ (prJ k pr (L.take i) ++ sp)))) ψ → am_K ru am_Lm IX11_writeTerm (D + 1) [.ref 0, .int (nI (p + 1 + off L i)), .int f] ψ (fun _ σ3 => (vp_in (nI (p + 1 + off L i)) 70000) ∧ am_X ru am_Lm IX11_writeTerm ((D + 1) + 1) 141 [some (.ref 0), some (.int (nI p)), some (.int fp), some (.int f3), some (.int (nI (p + 1 + off L i) + (gA σ3 4 (nI (p + 1 + off L i)).toNatClampNeg))), some (.int (nI i + (1 : Int32)))] [] σ3 Q) := by
          intro ψ f hf hf4 w
          have sp2 := seg_pts hwx (om_seg w hs) i _ (by rw [hp]; exact List.getElem?_eq_getElem hiL)
          rw [hp] at sp2
          rw [hsn] at hle
          simp only [List.length_append] at hle
          have hpb : (pr L[i]).length ≤ (prB k pr L[i]).length := by
            unfold prB
            split
            · simp only [List.length_append, List.length_cons, List.length_nil]
              omega
            · exact Nat.le_refl _
          rw [show D + 1 = (D - L[i].length) + 1 + L[i].length by omega]
          refine ih _ hmem (p + 1 + off L i) _ _ f ψ _ hf sp2 (by omega) (om_S w) ?_ (fun ω w2 => ⟨vp_in_nI (by omega) (by decide), ?_⟩)
          · simp only [List.length_append]
            by_cases e4 : k = 4
            · have eb : bo k = [] := if_neg (by omega)
              have el : ltr k a = [] := by unfold ltr; rw [if_neg (by omega), if_neg (by omega), if_neg (by omega)]
              rw [eb, el] at hlen ⊢
              simp only [List.length_nil] at hlen ⊢
              omega
            · omega
          · rw [show (D - L[i].length) + 1 + L[i].length = D + 1 by omega]
            have s5 := seg_pts hwx (om_seg w2 (om_seg w hs)) i _ (by rw [hp]; exact List.getElem?_eq_getElem hiL)
            rw [hp] at s5
            rw [nI_clamp (n := p + 1 + off L i) (by omega), (seg_kd (hw _ hmem) s5).2.2.2, nI_add, nI_1, show p + 1 + off L i + L[i].length = p + 1 + off L (i + 1) by omega]
            refine ihm (i + 1) ω (by omega) ?_
            have w3 := om_app w w2
            rw [hsn]
            have e5 : (if ¬ f = 0 ∧ kd L[i] = 3 then [40] ++ pr L[i] ++ [41] else pr L[i]) = prB k pr L[i] := by
              unfold prB
              by_cases e4 : k = 4
              · have : ¬ f = 0 := fun z => hf4.mp z e4
                simp [this, e4]
              · have : f = 0 := hf4.mpr e4
                simp [this, e4]
            rw [e5] at w3
            simpa using w3
        have two : ∀ ψ : am_S, om σ l (pre ++ (ltr k a ++ (bo k ++ (prJ k pr (L.take i) ++ sp)))) ψ → (vp_in (nI p) 70000) ∧ (¬ (gA ψ 1 p) = (4 : Int32) → am_K ru am_Lm IX11_writeTerm (D + 1) [.ref 0, .int (nI (p + 1 + off L i)), .int (0 : Int32)] ψ (fun _ σ3 => (vp_in (nI (p + 1 + off L i)) 70000) ∧ am_X ru am_Lm IX11_writeTerm ((D + 1) + 1) 141 [some (.ref 0), some (.int (nI p)), some (.int fp), some (.int f3), some (.int (nI (p + 1 + off L i) + (gA σ3 4 (nI (p + 1 + off L i)).toNatClampNeg))), some (.int (nI i + (1 : Int32)))] [] σ3 Q)) ∧ ((gA ψ 1 p) = (4 : Int32) → am_K ru am_Lm IX11_writeTerm (D + 1) [.ref 0, .int (nI (p + 1 + off L i)), .int (1 : Int32)] ψ (fun _ σ3 => (vp_in (nI (p + 1 + off L i)) 70000) ∧ am_X ru am_Lm IX11_writeTerm ((D + 1) + 1) 141 [some (.ref 0), some (.int (nI p)), some (.int fp), some (.int f3), some (.int (nI (p + 1 + off L i) + (gA σ3 4 (nI (p + 1 + off L i)).toNatClampNeg))), some (.int (nI i + (1 : Int32)))] [] σ3 Q)) := by
          intro ψ w
          obtain ⟨s1', _, _, _⟩ := seg_kd hwx (om_seg w hs)
          rw [kd_node] at s1'
          rw [s1']
          refine ⟨hin, And.symm (pk_eq k 4 (fun e => part ψ 1 (Or.inr rfl) ⟨fun z => absurd z (by decide), fun z => absurd e z⟩ w) (fun e => part ψ 0 (Or.inl rfl) ⟨fun _ => e, fun _ => rfl⟩ w))⟩
        refine vX11_writeTerm_141 ⟨hin, ?_⟩
        rw [nI_clamp (n := p) (by omega), s3]
        refine pk_le L.length i (fun h => by omega) (fun _ => pk_le i 0 (fun h => ?_) (fun h => ⟨hin, ?_⟩))
        · refine two υ ?_
          have esp : sp = [] := by rw [← hsp, if_pos (hte.mpr (by omega))]
          rw [esp, List.append_nil]
          exact g1
        · have esp : sp = [sepc k] := by rw [← hsp, if_neg (fun z => by have := hte.mp z; omega)]
          have sepw : ∀ {R : Unit → am_S → Prop}, (∀ ω, om σ l (pre ++ (ltr k a ++ (bo k ++ (prJ k pr (L.take i) ++ sp)))) ω → R () ω) → am_K ru am_Lm IX11_write (D + 1) [.ref 0, .int (nI (sepc k))] υ R := fun {R} hR => by
            refine m_write1 (d := D) (om_S g1) ?_ (fun ω w2 => hR ω ?_)
            · rw [hsn, esp] at hle
              simp only [List.length_append, List.length_cons, List.length_nil] at hle ⊢
              omega
            · have w3 := om_app g1 w2
              rw [esp]
              simpa using w3
          rw [s1]
          refine And.symm (pk_eq k 2 (fun e => ?_) (fun e => ⟨hin, And.symm (pk_eq k 3 (fun e3 => ?_) (fun e3 => ?_))⟩))
          · have es : sepc k = 44 := if_pos e
            rw [es] at sepw
            exact sepw fun ω w2 => two ω w2
          · have es : sepc k = 43 := by unfold sepc; rw [if_neg e, if_pos e3]
            rw [es] at sepw
            exact sepw fun ω w2 => two ω w2
          · have es : sepc k = 42 := by unfold sepc; rw [if_neg e, if_neg e3]
            rw [es] at sepw
            exact sepw fun ω w2 => two ω w2
    -- the letter
    obtain ⟨s1, s2, s3, s4⟩ := seg_kd hwx (om_seg w hs)
    rw [kd_node] at s1
    rw [nm_node] at s2
    have go : ∀ υ, om σ l (pre ++ (ltr k a ++ bo k)) υ → am_X ru am_Lm IX11_writeTerm ((D + 1) + 1) 141 [some (.ref 0), some (.int (nI p)), some (.int fp), some (.int f3), some (.int (nI p + (1 : Int32))), some (.int (0 : Int32))] [] υ Q := fun υ w2 => by
      have := loop L.length 0 υ (by omega) (by simpa [prJ] using w2)
      rw [off_0] at this
      rw [nI_1]
      exact this
    refine vX11_writeTerm_30 ⟨hin, ?_⟩
    rw [nI_clamp (n := p) (by omega), s1, s2]
    refine And.symm (pk_eq k 0 (fun e => ⟨hin, ?_⟩) (fun e0 => ⟨hin, And.symm (pk_eq k 1 (fun e => ⟨hin, ?_⟩) (fun e1 => ⟨hin, And.symm (pk_eq k 2 (fun e => ⟨hin, ?_⟩) (fun e2 => ?_))⟩))⟩))
    · have eb : bo k = [] := if_neg (by omega)
      have el : ltr k a = [if a < 6 then 117 + a else 59 + a] := if_pos e
      rw [eb, el] at go
      refine pk_le 6 a (fun h => ⟨hin, ?_⟩) (fun h => ⟨hin, ?_⟩)
      · rw [show (59 : Int32) + nI a = nI (59 + a) from nI_add 59 a]
        rw [if_neg (by omega)] at go
        refine m_write1 (d := D) (om_S w) (by omega) (fun ω w2 => go ω ?_)
        simpa using om_app w w2
      · rw [show (117 : Int32) + nI a = nI (117 + a) from nI_add 117 a]
        rw [if_pos (by omega)] at go
        refine m_write1 (d := D) (om_S w) (by omega) (fun ω w2 => go ω ?_)
        simpa using om_app w w2
    · have eb : bo k = [] := if_neg (by omega)
      have el : ltr k a = [97 + a] := by unfold ltr; rw [if_neg e0, if_pos e]
      rw [eb, el] at go
      rw [show (97 : Int32) + nI a = nI (97 + a) from nI_add 97 a]
      refine m_write1 (d := D) (om_S w) (by omega) (fun ω w2 => go ω ?_)
      simpa using om_app w w2
    · have eb : bo k = [40] := if_pos e
      have el : ltr k a = [102 + a] := by unfold ltr; rw [if_neg e0, if_neg e1, if_pos e]
      rw [eb, el] at go hlen
      rw [show (102 : Int32) + nI a = nI (102 + a) from nI_add 102 a]
      refine m_write1 (d := D) (om_S w) (by omega) (fun ω w2 => ?_)
      have w3 := om_app w w2
      refine m_write1 (d := D) (w := 40) (om_S w3) (by simp only [List.length_append, List.length_cons, List.length_nil] at hlen ⊢; omega) (fun ω2 w4 => go ω2 ?_)
      simpa using om_app w3 w4
    · have eb : bo k = [] := if_neg (by omega)
      have el : ltr k a = [] := by unfold ltr; rw [if_neg e0, if_neg e1, if_neg e2]
      rw [eb, el] at go
      exact go τ (by simpa using w)
  obtain ⟨s1, s2, s3, s4⟩ := seg_kd hwx hs
  rw [kd_node] at s1
  have noB : ¬ (¬ fp = 0 ∧ k = 3) → am_X ru am_Lm IX11_writeTerm ((D + 1) + 1) 30 [some (.ref 0), some (.int (nI p)), some (.int fp), some (.int (0 : Int32)), none, none] [] σ Q := fun h => by
    rw [if_neg h] at H
    exact main [] (bc k) 0 σ (fun _ => rfl) (fun z => absurd rfl z) (by simp) (om_nil hll) (fun ω w => H ω (by simpa using w))
  refine vX11_writeTerm ⟨fun z => noB (fun y => y.1 z), fun z => ⟨hin, ?_⟩⟩
  rw [nI_clamp (n := p) (by omega), s1]
  refine And.symm (pk_eq k 3 (fun e => ?_) (fun e => noB (fun y => e y.2)))
  rw [if_pos ⟨z, e⟩] at H
  have ebc : bc k = [] := if_neg (by omega)
  refine m_write1 (d := D) (w := 40) hll (by omega) (fun ω w => ?_)
  exact main [40] [41] 1 ω (fun z => absurd z (by decide)) (fun _ => ⟨rfl, ebc⟩) (by simp) w (fun ψ w2 => H ψ (by rw [ebc]; simpa using w2))
