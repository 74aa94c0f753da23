/-! ===== reading: atoms ===== -/
def ccN (bs : List Nat) (q : Nat) : Nat := match bs[q]? with
  | some b => b
  | none => 0
theorem cc_chx (bs : List Nat) (q : Nat) : chx bs q = nI (ccN bs q) := by
  unfold chx ccN
  cases bs[q]? with
  | none => rfl
  | some b => rfl
theorem cc_lt {bs : List Nat} (hb : tok bs) (q : Nat) : ccN bs q < 127 := by
  unfold ccN
  cases h : bs[q]? with
  | none => exact Nat.lt_of_sub_ne_zero (by decide)
  | some b =>
    have := hb.2 b (get_mem h)
    show b < 127
    omega
theorem cc_some {bs : List Nat} {q c : Nat} (hc : 1 ≤ c) : ccN bs q = c ↔ bs[q]? = some c := by
  unfold ccN
  cases h : bs[q]? with
  | none =>
    constructor
    · intro z
      have z2 : 0 = c := z
      omega
    · intro z
      cases z
  | some b =>
    constructor
    · intro z
      have z2 : b = c := z
      rw [z2]
    · intro z
      exact Option.some.inj z
theorem cc_chm {bs : List Nat} {q : Nat} (h : 1 ≤ ccN bs q) : chm bs q = nI (ccN bs q) := by
  unfold chm ccN at *
  cases h2 : bs[q]? with
  | none => rw [h2] at h; exact absurd h (by decide)
  | some b => rfl
theorem xs_ix {σ : am_S} {d k : Nat} {c : Int32} {Q : Int32 → am_S → Prop} (hk : k < 3) (H : Q (ixF c (am_tbyt.getD k []) 0) σ) : am_K ri am_Lx IJ0_indexOf_0f7a4 (d + 8) [.ref (am_sb + k), .int c] σ Q := ⟨_, _, str_ix hk, H⟩
theorem ix_v : ∀ c, c < 127 → ixF (nI c) (am_tbyt.getD 0 []) 0 = if 117 ≤ c ∧ c ≤ 122 then nI (c - 117) else if 65 ≤ c ∧ c ≤ 80 then nI (c - 59) else -1 := by decide +kernel
theorem ix_c : ∀ c, c < 127 → ixF (nI c) (am_tbyt.getD 1 []) 0 = if 97 ≤ c ∧ c ≤ 101 then nI (c - 97) else -1 := by decide +kernel
theorem ix_f : ∀ c, c < 127 → ixF (nI c) (am_tbyt.getD 2 []) 0 = if 102 ≤ c ∧ c ≤ 104 then nI (c - 102) else -1 := by decide +kernel
section AT
variable {bs : List Nat} {kk o dx dm : Nat}
abbrev FQ (Q : Option Nat → am_S → Prop) : Option Nat → am_S → Prop := fun r σ => (r = none → Q none σ) ∧ (∀ t, r = some t → Q (some t) σ)
abbrev CL (d : Nat) (σ5 : am_S) (ov : Option Nat) (Q : Option Nat → am_S → Prop) : Prop := (0 ≤ (gS σ5 7 5) → am_K rn am_Lx IX6_failed d [.ref 7] σ5 (FQ Q)) ∧ (¬ 0 ≤ (gS σ5 7 5) → am_K ri am_Lx IX6_took d [.ref 7, .int (41 : Int32)] σ5 (fun r8 σ8 => (¬ r8 = 0 → Q ov (wS σ8 7 4 ((gS σ8 7 4) - (1 : Int32)))) ∧ (r8 = 0 → am_K rn am_Lx IX6_failed d [.ref 7] σ8 (FQ Q))))
theorem cl_err {σ : am_S} {d e : Nat} {ov : Option Nat} {Q : Option Nat → am_S → Prop} (he : gS σ 7 5 = nI e) (h : e < 2 ^ 31) (H : Q none σ) : CL (d + 1) σ ov Q := by
  constructor
  · intro _
    refine vX6_failed ?_
    rw [he]
    exact ⟨fun _ => o_n rfl H, fun z => absurd (nI_pos' h) z⟩
  · intro z
    rw [he] at z
    exact absurd (nI_pos' h) z
theorem cl_ok {σ : am_S} {d p1 mk : Nat} {ov : Option Nat} {Q : Option Nat → am_S → Prop} (hb : tok bs) (hX : XR bs σ p1 (o + 1) mk) (hp : p1 ≤ bs.length) (h1 : bs[skp bs p1]? = some 41 → ∀ τ, xF 0 σ τ → XR bs τ (skp bs p1 + 1) o mk → gP τ = gP σ → Q ov τ) (h0 : bs[skp bs p1]? ≠ some 41 → ∀ τ, xF 0 σ τ → gS τ 7 5 = nI (skp bs p1) → gS τ 3 3 = nI mk → gP τ = gP σ → Q none τ) : CL (d + 2) σ ov Q := by
  obtain ⟨x1, x2, x3, x4, x5, x6⟩ := hX
  constructor
  · intro z
    rw [x4] at z
    exact absurd z i_m1_neg
  · intro _
    have h64 := hb.1
    refine x_took (d := d) (c := 41) hb x1 hp x2 (by omega) (by omega) (fun hs τ k1 k2 => ⟨fun _ => ?_, fun z => absurd z (by decide)⟩) (fun hs τ k1 k2 => ⟨fun z => absurd rfl z, fun _ => ?_⟩)
    · have e4 : gS τ 7 4 = nI (o + 1) := by rw [k1.1 7 4 (by simp)]; exact x3
      rw [e4, nI_pred]
      have f1 : xF 0 σ (wS τ 7 4 (nI o)) := gw_wS (xF_fr k1) (by simp) (by omega)
      refine h1 hs _ f1 (XR_gw ⟨x1, x2, x3, x4, x5, x6⟩ f1 ?_ (wS_at _ _ _ _) ?_ ?_) ?_
      · rw [wS_ne (by omega)]; exact k2
      · rw [wS_ne (by omega), k1.1 7 5 (by simp)]; exact x4
      · rw [wS_ne (by omega), k1.1 3 3 (by simp)]; exact x5
      · show gP τ = gP σ
        exact funext fun n => k1.2.2.2.1 n (by simp)
    · have e5 : gS τ 7 5 = -1 := by rw [k1.1 7 5 (by simp)]; exact x4
      refine vX6_failed ?_
      rw [e5, k2]
      refine ⟨fun z => absurd z i_m1_neg, fun _ => o_n rfl (h0 hs _ (gw_wS (xF_fr k1) (by simp) (by omega)) (wS_at _ _ _ _) ?_ ?_)⟩
      · rw [wS_ne (by omega), k1.1 3 3 (by simp)]; exact x5
      · show gP τ = gP σ
        exact funext fun n => k1.2.2.2.1 n (by simp)
/-- what can't stand there -/
theorem x_bad {σ : am_S} {d p mk : Nat} {Q : Option Nat → am_S → Prop} (hb : tok bs) (hX : XR bs σ p o mk) (hp : p ≤ bs.length) (H : ∀ τ, xF 0 σ τ → gS τ 7 5 = nI (skp bs p) → gS τ 3 3 = nI mk → gP τ = gP σ → Q none τ) : am_K ri am_Lx IX6_next (d + 1) [.ref 7] σ (fun _ σ1 => am_K rn am_Lx IX6_failed (d + 1) [.ref 7] σ1 (FQ Q)) := by
  obtain ⟨x1, x2, x3, x4, x5, x6⟩ := hX
  refine x_next (d := d) hb x1 hp x2 (fun τ k1 k2 => vX6_failed ?_)
  have e5 : gS τ 7 5 = -1 := by rw [k1.1 7 5 (by simp)]; exact x4
  rw [e5, k2]
  refine ⟨fun z => absurd z i_m1_neg, fun _ => o_n rfl (H _ (gw_wS (xF_fr k1) (by simp) (by omega)) (wS_at _ _ _ _) ?_ ?_)⟩
  · rw [wS_ne (by omega), k1.1 3 3 (by simp)]; exact x5
  · show gP τ = gP σ
    exact funext fun n => k1.2.2.2.1 n (by simp)
/-- the class at an atom, by what stands there -/
theorem x_atom {σ : am_S} {d p mk : Nat} {Q : Option Nat → am_S → Prop} (hb : tok bs) (hX : XR bs σ p o mk) (hp : p ≤ bs.length) (hv : ∀ v, v < 22 → (117 ≤ ccN bs (skp bs p) ∧ ccN bs (skp bs p) ≤ 122 ∧ v = ccN bs (skp bs p) - 117 ∨ 65 ≤ ccN bs (skp bs p) ∧ ccN bs (skp bs p) ≤ 80 ∧ v = ccN bs (skp bs p) - 59) → ∀ ov τ, xF 0 σ τ → XR bs τ (skp bs p + 1) o mk → gP τ = gP σ → Ro τ ov (node 0 v []) → Q ov τ) (hc : 97 ≤ ccN bs (skp bs p) → ccN bs (skp bs p) ≤ 101 → ∀ ov τ, xF 0 σ τ → XR bs τ (skp bs p + 1) o mk → gP τ = gP σ → Ro τ ov (node 1 (ccN bs (skp bs p) - 97) []) → Q ov τ) (hf : 102 ≤ ccN bs (skp bs p) → ccN bs (skp bs p) ≤ 104 → ∀ τ, xF 0 σ τ → XR bs τ (skp bs p + 1) o mk → gP τ = gP σ → am_X rn am_Lx IX6_atom (d + 9) 50 [some (.ref 7), some (.int (nI (ccN bs (skp bs p)))), some (.int (-1)), some (.int (-1)), some (.int (nI (ccN bs (skp bs p) - 102))), none] [] τ Q) (he : ¬ (117 ≤ ccN bs (skp bs p) ∧ ccN bs (skp bs p) ≤ 122) → ¬ (65 ≤ ccN bs (skp bs p) ∧ ccN bs (skp bs p) ≤ 80) → ¬ (97 ≤ ccN bs (skp bs p) ∧ ccN bs (skp bs p) ≤ 104) → ∀ τ, xF 0 σ τ → XR bs τ (skp bs p) o mk → gP τ = gP σ → am_X rn am_Lx IX6_atom (d + 9) 50 [some (.ref 7), some (.int (nI (ccN bs (skp bs p)))), some (.int (-1)), some (.int (-1)), some (.int (-1)), none] [] τ Q) : am_K rn am_Lx IX6_atom (d + 9) [.ref 7] σ Q := by
  have hX0 := hX
  obtain ⟨x1, x2, x3, x4, x5, x6⟩ := hX
  have hlt := cc_lt hb (skp bs p)
  refine vX6_atom (x_next (d := d + 7) hb x1 hp x2 (fun τ k1 k2 => ?_))
  rw [cc_chx]
  refine xs_ix (d := d) (k := 0) (by omega) (xs_ix (d := d) (k := 1) (by omega) (xs_ix (d := d) (k := 2) (by omega) ?_))
  rw [ix_v _ hlt, ix_c _ hlt, ix_f _ hlt, k2, nI_1]
  have m0 : ¬ (0 : Int32) ≤ -1 := by decide
  have m1 : (-1 : Int32) < 0 := by decide
  have g0 : xF 0 σ τ := xF_fr k1
  have eP : gP τ = gP σ := funext fun n => k1.2.2.2.1 n (by simp)
  have g1 : xF 0 σ (wS τ 7 3 (nI (skp bs p + 1))) := gw_wS g0 (by simp) (by omega)
  have X0 : XR bs τ (skp bs p) o mk := XR_gw hX0 g0 k2 (by rw [k1.1 7 4 (by simp)]; exact x3) (by rw [k1.1 7 5 (by simp)]; exact x4) (by rw [k1.1 3 3 (by simp)]; exact x5)
  have X1 : XR bs (wS τ 7 3 (nI (skp bs p + 1))) (skp bs p + 1) o mk := XR_gw hX0 g1 (wS_at _ _ _ _) (by rw [wS_ne (by omega), k1.1 7 4 (by simp)]; exact x3) (by rw [wS_ne (by omega), k1.1 7 5 (by simp)]; exact x4) (by rw [wS_ne (by omega), k1.1 3 3 (by simp)]; exact x5)
  have fq : ∀ {Q : Option Nat → am_S → Prop} {r : Option Nat} {υ : am_S}, Q r υ → FQ Q r υ := fun {Q r υ} h => ⟨fun z => (by subst z; exact h), fun t z => (by subst z; exact h)⟩
  have vgo : ∀ (v : Nat) (w3 w4 : Int32), v < 22 → (117 ≤ ccN bs (skp bs p) ∧ ccN bs (skp bs p) ≤ 122 ∧ v = ccN bs (skp bs p) - 117 ∨ 65 ≤ ccN bs (skp bs p) ∧ ccN bs (skp bs p) ≤ 80 ∧ v = ccN bs (skp bs p) - 59) → am_X rn am_Lx IX6_atom (d + 9) 50 [some (.ref 7), some (.int (nI (ccN bs (skp bs p)))), some (.int (nI v)), some (.int w3), some (.int w4), none] [] (wS τ 7 3 (nI (skp bs p + 1))) Q := fun v w3 w4 h22 h => vX6_atom_50 ⟨fun z => absurd z (nI_pos (by omega)), fun _ => x_variable (d := d + 7) X1.2.2.2.2.2 h22 (fun ov hr => fq (hv v h22 h ov _ g1 X1 eP hr))⟩
  by_cases h1 : 117 ≤ ccN bs (skp bs p) ∧ ccN bs (skp bs p) ≤ 122
  · simp only [if_pos h1]
    exact ⟨fun _ => vgo _ _ _ (by omega) (Or.inl ⟨h1.1, h1.2, rfl⟩), fun z => absurd (nI_pos' (by omega)) z⟩
  · simp only [if_neg h1]
    by_cases h2 : 65 ≤ ccN bs (skp bs p) ∧ ccN bs (skp bs p) ≤ 80
    · simp only [if_pos h2]
      exact ⟨fun _ => vgo _ _ _ (by omega) (Or.inr ⟨h2.1, h2.2, rfl⟩), fun z => absurd (nI_pos' (by omega)) z⟩
    · simp only [if_neg h2]
      refine ⟨fun z => absurd z m0, fun _ => ?_⟩
      by_cases h3 : 97 ≤ ccN bs (skp bs p) ∧ ccN bs (skp bs p) ≤ 101
      · simp only [if_pos h3]
        refine ⟨fun _ => vX6_atom_50 ⟨fun _ => ⟨fun z => absurd z (nI_pos (by omega)), fun _ => x_constant (d := d + 7) X1.2.2.2.2.2 (by omega) (fun ov hr => fq (hc h3.1 h3.2 ov _ g1 X1 eP hr))⟩, fun z => absurd m1 z⟩, fun z => absurd (nI_pos' (by omega)) z⟩
      · simp only [if_neg h3]
        refine ⟨fun z => absurd z m0, fun _ => ?_⟩
        by_cases h4 : 102 ≤ ccN bs (skp bs p) ∧ ccN bs (skp bs p) ≤ 104
        · simp only [if_pos h4]
          exact ⟨fun z => absurd z (nI_pos (by omega)), fun _ => hf h4.1 h4.2 _ g1 X1 eP⟩
        · simp only [if_neg h4]
          exact ⟨fun _ => he h1 h2 (by omega) τ g0 X0 eP, fun z => absurd m1 z⟩
/-- the reference at an atom -/
theorem m_atom {σ : am_S} {d p f T : Nat} {Q : Int32 → am_S → Prop} (hb : tok bs) (hM : MR bs σ p o f T) (hp : p ≤ bs.length) (hT1 : 17280 ≤ T) (hT : T < 60000) (hv : ∀ v, v < 22 → (117 ≤ ccN bs (skp bs p) ∧ ccN bs (skp bs p) ≤ 122 ∧ v = ccN bs (skp bs p) - 117 ∨ 65 ≤ ccN bs (skp bs p) ∧ ccN bs (skp bs p) ≤ 80 ∧ v = ccN bs (skp bs p) - 59) → ∀ τ, wr T f σ τ → MR bs τ (skp bs p + 1) o f (T + 1) → seg τ T (node 0 v []) → Q (nI T) τ) (hc : 97 ≤ ccN bs (skp bs p) → ccN bs (skp bs p) ≤ 101 → ∀ τ, wr T f σ τ → MR bs τ (skp bs p + 1) o f (T + 1) → seg τ T (node 1 (ccN bs (skp bs p) - 97) []) → Q (nI T) τ) (hf : 102 ≤ ccN bs (skp bs p) → ccN bs (skp bs p) ≤ 104 → ∀ τ, wr T f σ τ → MR bs τ (skp bs p + 1) o f T → am_K ri am_Lm IX11_readFunction (d + 2) [.ref 0, .int (nI (ccN bs (skp bs p) - 102))] τ Q) (hl : ccN bs (skp bs p) = 40 → o < 8 → ∀ τ, wr T f σ τ → MR bs τ (skp bs p + 1) (o + 1) f T → am_K ri am_Lm IX11_readTerm (d + 2) [.ref 0] τ (fun r9 σ9 => (¬ (gS σ9 0 12) = 0 → am_K ri am_Lm IX11_fail (d + 2) [.ref 0] σ9 (fun r10 σ10 => Q r10 σ10)) ∧ ((gS σ9 0 12) = 0 → am_K ri am_Lm IX11_next (d + 2) [.ref 0] σ9 (fun r11 σ11 => (r11 = (41 : Int32) → Q r9 (wS (wS σ11 0 10 ((gS σ11 0 10) + (1 : Int32))) 0 11 ((gS σ11 0 11) - (1 : Int32)))) ∧ (¬ r11 = (41 : Int32) → am_K ri am_Lm IX11_fail (d + 2) [.ref 0] σ11 (fun r12 σ12 => Q r12 σ12)))))) (he : ¬ (117 ≤ ccN bs (skp bs p) ∧ ccN bs (skp bs p) ≤ 122) → ¬ (65 ≤ ccN bs (skp bs p) ∧ ccN bs (skp bs p) ≤ 80) → ¬ (97 ≤ ccN bs (skp bs p) ∧ ccN bs (skp bs p) ≤ 104) → ¬ (ccN bs (skp bs p) = 40 ∧ o < 8) → ∀ v τ, wr T f σ τ → gS τ 0 10 = nI (skp bs p) → gS τ 0 12 = 1 → gS τ 0 7 = nI f → Q v τ) (ho : o ≤ 8) : am_K ri am_Lm IX11_readAtom (d + 3) [.ref 0] σ Q := by
  obtain ⟨m1, m2, m3, m4, m5, m6, m7⟩ := hM
  have hlt := cc_lt hb (skp bs p)
  refine vX11_readAtom ⟨fun _ => m_next (d := d + 1) hb m1 hp m2 (fun τ k1 k2 => ?_), fun z => absurd m4 z⟩
  have w0 : ∀ {lo f}, wr lo f σ τ := fun {lo f} => wr_fr10 k1
  have t11 : gS τ 0 11 = nI o := by rw [k1.1 0 11 (by simp)]; exact m3
  have t12 : gS τ 0 12 = 0 := by rw [k1.1 0 12 (by simp)]; exact m4
  have t7 : gS τ 0 7 = nI f := by rw [k1.1 0 7 (by simp)]; exact m5
  have t4 : gS τ 0 4 = nI T := by rw [k1.1 0 4 (by simp)]; exact m6
  have t5 : gS τ 0 5 = nI 0 := by rw [k1.1 0 5 (by simp)]; exact m7
  have tc : ∀ (lo hi : Nat), 1 ≤ lo → (((lo : Int) ≤ (chm bs (skp bs p)).toInt ∧ (chm bs (skp bs p)).toInt ≤ (hi : Int)) ↔ (lo ≤ ccN bs (skp bs p) ∧ ccN bs (skp bs p) ≤ hi)) := by
    intro lo hi h1
    rcases Nat.eq_zero_or_pos (ccN bs (skp bs p)) with e | e
    · have : chm bs (skp bs p) = -1 := by
        unfold chm
        unfold ccN at e
        cases h : bs[skp bs p]? with
        | none => rfl
        | some b =>
          rw [h] at e
          have := hb.2 b (get_mem h)
          have e2 : b = 0 := e
          omega
      rw [this, l_m1, e]
      omega
    · rw [cc_chm e, nI_toInt (by omega)]
      omega
  -- a letter
  have head : ∀ (k a : Nat) (υ : am_S), loc k a [] → wr T f σ υ → MR bs υ (skp bs p) o f T → (∀ ω, wr T f σ ω → MR bs ω (skp bs p + 1) o f (T + 1) → seg ω T (node k a []) → Q (nI T) ω) → am_K ri am_Lm IX11_head (d + 2) [.ref 0, .int (nI k), .int (nI a), .int (0 : Int32)] (wS υ 0 10 ((gS υ 0 10) + (1 : Int32))) (fun r3 σ3 => Q r3 σ3) := by
    intro k a υ hloc w hM2 hQ
    obtain ⟨n1, n2, n3, n4, n5, n6, n7⟩ := hM2
    rw [n2, nI_1]
    refine m_head (d := d + 1) (T := T) (by rw [wS_ne (by omega)]; exact n6) (by omega) ?_
    generalize hω : wS (wA (wA (wA (wA (wS υ 0 10 (nI (skp bs p + 1))) 1 T (nI k)) 2 T (nI a)) 3 T (0 : Int32)) 4 T (1 : Int32)) 0 4 (nI (T + 1)) = ω
    have w2 : wr T f σ ω := by rw [← hω]; exact wr_S (wr_A (wr_A (wr_A (wr_A (wr_S w (by simp)) (by omega) (by omega) (Nat.le_refl _)) (by omega) (by omega) (Nat.le_refl _)) (by omega) (by omega) (Nat.le_refl _)) (by omega) (by omega) (Nat.le_refl _)) (by simp)
    have sS : ∀ j, j ≠ 4 → j ≠ 10 → gS ω 0 j = gS υ 0 j := fun j h1 h2 => by rw [← hω, wS_ne (by omega), gS_wA, gS_wA, gS_wA, gS_wA, wS_ne (by omega)]
    refine hQ ω w2 ⟨wr_tm m1 w2, by rw [← hω, wS_ne (by omega), gS_wA, gS_wA, gS_wA, gS_wA, wS_at], by rw [sS 11 (by omega) (by omega)]; exact n3, by rw [sS 12 (by omega) (by omega)]; exact n4, by rw [sS 7 (by omega) (by omega)]; exact n5, by rw [← hω, wS_at], by rw [sS 5 (by omega) (by omega)]; exact n7⟩ ?_
    rw [seg_node (by simp)]
    refine ⟨?_, ?_, ?_, ?_, trivial⟩
    · rw [← hω, gA_wS, wA_ne (by omega), wA_ne (by omega), wA_ne (by omega), wA_at]
    · rw [← hω, gA_wS, wA_ne (by omega), wA_ne (by omega), wA_at]
    · rw [← hω, gA_wS, wA_ne (by omega), wA_at]
      rfl
    · rw [← hω, gA_wS, wA_at]
      rfl
  have X0 : MR bs τ (skp bs p) o f T := ⟨wr_tm m1 (w0 (lo := 0) (f := 0)), k2, t11, t12, t7, t4, t5⟩
  have vgo : ∀ (c : Nat), c = ccN bs (skp bs p) → 1 ≤ c → (117 ≤ c ∧ c ≤ 122 ∨ 65 ≤ c ∧ c ≤ 80) → (chm bs (skp bs p) < (97 : Int32) → am_K ri am_Lm IX11_head (d + 2) [.ref 0, .int (0 : Int32), .int (chm bs (skp bs p) - (59 : Int32)), .int (0 : Int32)] (wS τ 0 10 ((gS τ 0 10) + (1 : Int32))) (fun r3 σ3 => Q r3 σ3)) ∧ (¬ chm bs (skp bs p) < (97 : Int32) → am_K ri am_Lm IX11_head (d + 2) [.ref 0, .int (0 : Int32), .int (chm bs (skp bs p) - (117 : Int32)), .int (0 : Int32)] (wS τ 0 10 ((gS τ 0 10) + (1 : Int32))) (fun r3 σ3 => Q r3 σ3)) := by
    intro c hc0 h1 h2
    rw [cc_chm (by omega), ← hc0]
    refine pk_lt c 97 (fun h => ?_) (fun h => ?_)
    · rw [show (59 : Int32) = nI 59 from rfl, pk_sub (by omega)]
      exact head 0 (c - 59) τ (Or.inl ⟨rfl, by omega, rfl⟩) w0 X0 (hv (c - 59) (by omega) (by omega))
    · rw [show (117 : Int32) = nI 117 from rfl, pk_sub (by omega)]
      exact head 0 (c - 117) τ (Or.inl ⟨rfl, by omega, rfl⟩) w0 X0 (hv (c - 117) (by omega) (by omega))
  have inC : ∀ {lo hi : Int64} {a b : Nat} {R : Int32 → am_S → Prop}, lo.toInt = (a : Int) → hi.toInt = (b : Int) → 1 ≤ a → ((a ≤ ccN bs (skp bs p) ∧ ccN bs (skp bs p) ≤ b) → R 1 τ) → (¬ (a ≤ ccN bs (skp bs p) ∧ ccN bs (skp bs p) ≤ b) → R 0 τ) → am_K ri am_Lm IX11_in (d + 2) [.long (chm bs (skp bs p)).toInt64, .long lo, .long hi] τ R := by
    intro lo hi a b R e1 e2 h1 hR1 hR0
    refine ⟨_, _, m_inI (d := d + 1) e1 e2, ?_⟩
    by_cases h : a ≤ ccN bs (skp bs p) ∧ ccN bs (skp bs p) ≤ b
    · rw [b01_t ((tc a b h1).mpr h)]
      exact hR1 h
    · rw [b01_f (fun z => h ((tc a b h1).mp z))]
      exact hR0 h
  refine inC (a := 117) (b := 122) rfl rfl (by omega) (fun h1 => ⟨fun _ => vgo _ rfl (by omega) (Or.inl h1), fun z => absurd z (by decide)⟩) (fun h1 => ⟨fun z => absurd rfl z, fun _ => ?_⟩)
  refine inC (a := 65) (b := 80) rfl rfl (by omega) (fun h2 => ⟨fun z => absurd z (by decide), fun _ => vgo _ rfl (by omega) (Or.inr h2)⟩) (fun h2 => ⟨fun _ => ?_, fun z => absurd rfl z⟩)
  refine inC (a := 97) (b := 101) rfl rfl (by omega) (fun h3 => ⟨fun z => absurd z (by decide), fun _ => ?_⟩) (fun h3 => ⟨fun _ => ?_, fun z => absurd rfl z⟩)
  · rw [cc_chm (by omega), show (97 : Int32) = nI 97 from rfl, pk_sub (by omega)]
    exact head 1 _ τ (Or.inr (Or.inl ⟨rfl, by omega, rfl⟩)) w0 X0 (hc h3.1 h3.2)
  refine inC (a := 102) (b := 104) rfl rfl (by omega) (fun h4 => ⟨fun z => absurd z (by decide), fun _ => ?_⟩) (fun h4 => ⟨fun _ => ?_, fun z => absurd rfl z⟩)
  · rw [cc_chm (by omega), show (102 : Int32) = nI 102 from rfl, pk_sub (by omega), k2, nI_1]
    refine hf h4.1 h4.2 _ (wr_S w0 (by simp)) ⟨wr_tm m1 (wr_S (w0 (lo := 0) (f := 0)) (by simp)), wS_at _ _ _ _, by rw [wS_ne (by omega)]; exact t11, by rw [wS_ne (by omega)]; exact t12, by rw [wS_ne (by omega)]; exact t7, by rw [wS_ne (by omega)]; exact t4, by rw [wS_ne (by omega)]; exact t5⟩
  have fail : ¬ (ccN bs (skp bs p) = 40 ∧ o < 8) → am_K ri am_Lm IX11_fail (d + 2) [.ref 0] τ (fun r8 σ8 => Q r8 σ8) := fun h => vX11_fail ⟨Or.inr rfl, he h1 h2 (by omega) h _ _ (wr_S w0 (by simp)) (by rw [wS_ne (by omega)]; exact k2) (wS_at _ _ _ _) (by rw [wS_ne (by omega)]; exact t7)⟩
  refine ⟨fun z => fail (fun e => z ?_), fun z => ?_⟩
  · rw [cc_chm (by omega), e.1]
    rfl
  · have e40 : ccN bs (skp bs p) = 40 := (cc_some (by omega)).mpr ((chm_c (c := 40) hb (by omega)).mp z)
    rw [t11]
    refine And.symm (pk_eq o 8 (fun e => fail (by omega)) (fun e => ?_))
    rw [k2, nI_1, nI_1]
    refine hl e40 (by omega) _ (wr_S (wr_S w0 (by simp)) (by simp)) ⟨wr_tm m1 (wr_S (wr_S (w0 (lo := 0) (f := 0)) (by simp)) (by simp)), by rw [wS_ne (by omega), wS_at], wS_at _ _ _ _, by rw [wS_ne (by omega), wS_ne (by omega)]; exact t12, by rw [wS_ne (by omega), wS_ne (by omega)]; exact t7, by rw [wS_ne (by omega), wS_ne (by omega)]; exact t4, by rw [wS_ne (by omega), wS_ne (by omega)]; exact t5⟩
end AT
