/-! ===== reading: atoms, both sides ===== -/
section JA
variable {bs : List Nat} {kk o dx dm : Nat}
theorem stB_eq {mk : Nat} {σ τ : am_S} (h : gP τ = gP σ) : stB mk σ τ := fun i _ => by rw [h]
theorem cl_both {d : Nat} {σ : am_S} {ov : Option Nat} {Q : Option Nat → am_S → Prop} (h : CL d σ ov Q) : (ov = none → CL d σ none Q) ∧ (∀ t, ov = some t → CL d σ (some t) Q) := ⟨fun z => (by subst z; exact h), fun t z => (by subst z; exact h)⟩
theorem fits_len {k a : Nat} : (node k a []).length = 1 := rfl
/-- the class where a bracket must open: nothing of the kind is there -/
theorem x_noopen {σ : am_S} {d p mk : Nat} {l4 c : Int32} {Q : Option Nat → am_S → Prop} (hb : tok bs) (hX : XR bs σ p o mk) (hp : p ≤ bs.length) (ho : o ≤ 8) (hn : ¬ (bs[skp bs p]? = some 40 ∧ o < 8)) (H : ∀ τ, xF 0 σ τ → gS τ 7 5 = nI (skp bs p) → gS τ 3 3 = nI mk → gP τ = gP σ → Q none τ) : am_X rn am_Lx IX6_atom (d + 3) 50 [some (.ref 7), some (.int c), some (.int (-1)), some (.int (-1)), some (.int l4), none] [] σ Q := by
  have m1 : (-1 : Int32) < 0 := by decide
  refine vX6_atom_50 ⟨fun _ => ⟨fun _ => ?_, fun z => absurd m1 z⟩, fun z => absurd m1 z⟩
  rw [hX.2.2.1]
  refine pk_le 8 o (fun h => x_bad (d := d + 1) hb hX hp H) (fun h => ?_)
  have h64 := hb.1
  refine x_took (d := d) (c := 40) hb hX.1 hp hX.2.1 (by omega) (by omega) (fun hs τ k1 k2 => absurd ⟨hs, h⟩ hn) (fun hs τ k1 k2 => ⟨fun z => absurd rfl z, fun _ => ?_⟩)
  have X1 : XR bs τ (skp bs p) o mk := XR_gw hX (xF_fr k1) k2 (by rw [k1.1 7 4 (by simp)]; exact hX.2.2.1) (by rw [k1.1 7 5 (by simp)]; exact hX.2.2.2.1) (by rw [k1.1 3 3 (by simp)]; exact hX.2.2.2.2.1)
  have eP : gP τ = gP σ := funext fun n => k1.2.2.2.1 n (by simp)
  refine x_bad (d := d + 1) hb X1 (skp_ok hp).2.1 (fun υ g1 g2 g3 g4 => H υ (xF_mono (xF_trans (xF_fr k1) g1) (by omega)) ?_ g3 (g4.trans eP))
  rw [g2, skp_skp hp]
theorem x_open {σ : am_S} {d p mk : Nat} {l4 c : Int32} {Q : Option Nat → am_S → Prop} (hb : tok bs) (hX : XR bs σ p o mk) (hp : p ≤ bs.length) (ho : o < 8) (hn : bs[skp bs p]? = some 40) (H : ∀ τ, xF 0 σ τ → XR bs τ (skp bs p + 1) (o + 1) mk → gP τ = gP σ → (l4 < 0 → am_K rn am_Lx IX6_sum (d + 2) [.ref 7] τ (fun r5 σ5 => (r5 = none → CL (d + 2) σ5 none Q) ∧ (∀ t, r5 = some t → CL (d + 2) σ5 (some t) Q))) ∧ (¬ l4 < 0 → am_K rn am_Lx IX6_called (d + 2) [.ref 7, .int l4] τ (fun r5 σ5 => (r5 = none → CL (d + 2) σ5 none Q) ∧ (∀ t, r5 = some t → CL (d + 2) σ5 (some t) Q)))) : am_X rn am_Lx IX6_atom (d + 3) 50 [some (.ref 7), some (.int c), some (.int (-1)), some (.int (-1)), some (.int l4), none] [] σ Q := by
  have m1 : (-1 : Int32) < 0 := by decide
  refine vX6_atom_50 ⟨fun _ => ⟨fun _ => ?_, fun z => absurd m1 z⟩, fun z => absurd m1 z⟩
  rw [hX.2.2.1]
  refine pk_le 8 o (fun h => by omega) (fun h => ?_)
  have h64 := hb.1
  refine x_took (d := d) (c := 40) hb hX.1 hp hX.2.1 (by omega) (by omega) (fun hs τ k1 k2 => ⟨fun _ => ?_, fun z => absurd z (by decide)⟩) (fun hs => absurd hn hs)
  have e4 : gS τ 7 4 = nI o := by rw [k1.1 7 4 (by simp)]; exact hX.2.2.1
  rw [e4, nI_1]
  have f1 : xF 0 σ (wS τ 7 4 (nI (o + 1))) := gw_wS (xF_fr k1) (by simp) (by omega)
  have eP : gP τ = gP σ := funext fun n => k1.2.2.2.1 n (by simp)
  exact H _ f1 (XR_gw hX f1 (by rw [wS_ne (by omega)]; exact k2) (wS_at _ _ _ _) (by rw [wS_ne (by omega), k1.1 7 5 (by simp)]; exact hX.2.2.2.1) (by rw [wS_ne (by omega), k1.1 3 3 (by simp)]; exact hX.2.2.2.2.1)) eP
theorem m_nofun {σ : am_S} {d p f T : Nat} {l1 : Int32} {Q : Int32 → am_S → Prop} (hb : tok bs) (hM : MR bs σ p o f T) (hp : p ≤ bs.length) (ho : o ≤ 8) (hn : ¬ (bs[skp bs p]? = some 40 ∧ o < 8)) (H : ∀ v τ, wr T f σ τ → gS τ 0 10 = nI (skp bs p) → gS τ 0 12 = 1 → gS τ 0 7 = nI f → Q v τ) : am_K ri am_Lm IX11_readFunction (d + 2) [.ref 0, .int l1] σ Q := by
  obtain ⟨m1, m2, m3, m4, m5, m6, m7⟩ := hM
  refine vX11_readFunction (m_next (d := d) hb m1 hp m2 (fun τ k1 k2 => ?_))
  have fail : am_K ri am_Lm IX11_fail (d + 1) [.ref 0] τ (fun r σ1 => Q r σ1) := vX11_fail ⟨Or.inr rfl, H _ _ (wr_S (wr_fr10 k1) (by simp)) (by rw [wS_ne (by omega)]; exact k2) (wS_at _ _ _ _) (by rw [wS_ne (by omega), k1.1 0 7 (by simp)]; exact m5)⟩
  refine ⟨fun _ => fail, fun z => ?_⟩
  have e11 : gS τ 0 11 = nI o := by rw [k1.1 0 11 (by simp)]; exact m3
  rw [e11]
  refine And.symm (pk_eq o 8 (fun _ => fail) (fun e => absurd ⟨(chm_c (c := 40) hb (by omega)).mp z, by omega⟩ hn))
theorem m_fun {σ : am_S} {d p f T : Nat} {l1 : Int32} {Q : Int32 → am_S → Prop} (hb : tok bs) (hM : MR bs σ p o f T) (hp : p ≤ bs.length) (ho : o < 8) (hn : bs[skp bs p]? = some 40) (H : ∀ τ, wr T f σ τ → MR bs τ (skp bs p + 1) (o + 1) f T → am_X ri am_Lm IX11_readFunction (d + 2) 53 [some (.ref 0), some (.int l1), some (.int (nI f)), some (.int (0 : Int32)), some (.int (1 : Int32)), none] [] τ Q) : am_K ri am_Lm IX11_readFunction (d + 2) [.ref 0, .int l1] σ Q := by
  obtain ⟨m1, m2, m3, m4, m5, m6, m7⟩ := hM
  refine vX11_readFunction (m_next (d := d) hb m1 hp m2 (fun τ k1 k2 => ⟨fun z => absurd ((chm_c (c := 40) hb (by omega)).mpr hn) z, fun _ => ?_⟩))
  have e11 : gS τ 0 11 = nI o := by rw [k1.1 0 11 (by simp)]; exact m3
  have e7 : gS τ 0 7 = nI f := by rw [k1.1 0 7 (by simp)]; exact m5
  rw [e11, e7, k2, nI_1, nI_1]
  refine And.symm (pk_eq o 8 (fun e => by omega) (fun e => H _ (wr_S (wr_S (wr_fr10 k1) (by simp)) (by simp)) ⟨wr_tm m1 (wr_S (wr_S (wr_fr10 (lo := 0) (f := 0) k1) (by simp)) (by simp)), by rw [wS_ne (by omega), wS_at], wS_at _ _ _ _, by rw [wS_ne (by omega), wS_ne (by omega), k1.1 0 12 (by simp)]; exact m4, by rw [wS_ne (by omega), wS_ne (by omega)]; exact e7, by rw [wS_ne (by omega), wS_ne (by omega), k1.1 0 4 (by simp)]; exact m6, by rw [wS_ne (by omega), wS_ne (by omega), k1.1 0 5 (by simp)]; exact m7⟩))
theorem jA (hb : tok bs) (ho : o ≤ 8) (hkk : kk ≤ 90) (hdx : 43 ≤ dx) (hdm : 67 ≤ dm) (item : o < 8 → ∀ p, p ≤ bs.length → jnt IX6_sum IX11_readTerm dx dm 0 2 kk bs (o + 1) p) (p : Nat) (hp : p ≤ bs.length) : jnt IX6_atom IX11_readAtom (dx + 2) (dm + 2) 2 0 (kk + 1) bs o p := by
  have h64 := hb.1
  obtain ⟨q1, q2, q3⟩ := skp_ok (bs := bs) hp
  generalize hq : skp bs p = q at q1 q2 q3
  have hlt := cc_lt hb q
  have qlt : 1 ≤ ccN bs q → q < bs.length := fun h => by
    unfold ccN at h
    cases e : bs[q]? with
    | none => rw [e] at h; exact absurd h (by decide)
    | some b => exact get_lt e
  have big : ∀ {a b : Nat} {P : Prop}, (False → P) := fun {a b P} h => h.elim
  -- letters
  have leaf : ∀ x : Tm, Can x → x.length = 1 → q < bs.length → (∀ (σ : am_S) (mk d : Nat) (Q : Option Nat → am_S → Prop), XR bs σ p o mk → (∀ ov τ, xF 0 σ τ → XR bs τ (q + 1) o mk → gP τ = gP σ → Ro τ ov x → Q ov τ) → am_K rn am_Lx IX6_atom (d + (dx + 2)) [.ref 7] σ Q) → (∀ (σ : am_S) (f T d : Nat) (Q : Int32 → am_S → Prop), MR bs σ p o f T → 17280 ≤ T → T < 60000 → (∀ τ, wr T f σ τ → MR bs τ (q + 1) o f (T + 1) → seg τ T x → Q (nI T) τ) → am_K ri am_Lm IX11_readAtom (d + (dm + 2)) [.ref 0] σ Q) → jnt IX6_atom IX11_readAtom (dx + 2) (dm + 2) 2 0 (kk + 1) bs o p := by
    intro x hxC hx1 hql hx hm
    refine ⟨.inr (q + 1, x), ⟨by omega, by omega, hxC, by omega⟩, ?_, ?_⟩
    · intro σ mk d Q hXR hmk hbud hQ
      exact hx σ mk d Q hXR (fun ov τ g1 g2 g3 g4 => hQ ov τ (xF_mono g1 (by omega)) g2 (stB_eq g3) g4)
    · intro σ f T d Q hMR hf hT1 hT2 hQ
      exact hm σ f T d Q hMR hT1 (by omega) (fun τ g1 g2 g3 => hQ T τ (T + 1) g1 g2 (by omega) (by omega) g3 hT1 (by omega))
  by_cases hv : (117 ≤ ccN bs q ∧ ccN bs q ≤ 122) ∨ (65 ≤ ccN bs q ∧ ccN bs q ≤ 80)
  · have hql := qlt (by omega)
    obtain ⟨v, hv22, hve⟩ : ∃ v, v < 22 ∧ (117 ≤ ccN bs q ∧ ccN bs q ≤ 122 ∧ v = ccN bs q - 117 ∨ 65 ≤ ccN bs q ∧ ccN bs q ≤ 80 ∧ v = ccN bs q - 59) := by
      rcases hv with h | h
      · exact ⟨ccN bs q - 117, by omega, Or.inl ⟨h.1, h.2, rfl⟩⟩
      · exact ⟨ccN bs q - 59, by omega, Or.inr ⟨h.1, h.2, rfl⟩⟩
    refine leaf (node 0 v []) (can_v hv22) rfl hql ?_ ?_
    · intro σ mk d Q hXR hK
      rw [show d + (dx + 2) = (d + dx - 7) + 9 by omega]
      refine x_atom hb hXR hp ?_ ?_ ?_ ?_
      · rw [hq]
        intro v' h1 h2
        have e : v' = v := by omega
        subst e
        exact hK
      · rw [hq]; exact fun z1 z2 => (by omega : False).elim
      · rw [hq]; exact fun z1 z2 => (by omega : False).elim
      · rw [hq]; exact fun z1 z2 z3 => (by omega : False).elim
    · intro σ f T d Q hMR hT1 hT2 hK
      rw [show d + (dm + 2) = (d + dm - 1) + 3 by omega]
      refine m_atom hb hMR hp hT1 hT2 ?_ ?_ ?_ ?_ ?_ ho
      · rw [hq]
        intro v' h1 h2
        have e : v' = v := by omega
        subst e
        exact hK
      · rw [hq]; exact fun z1 z2 => (by omega : False).elim
      · rw [hq]; exact fun z1 z2 => (by omega : False).elim
      · rw [hq]; exact fun z1 => (by omega : False).elim
      · rw [hq]; exact fun z1 z2 z3 z4 => (by omega : False).elim
  by_cases hc : 97 ≤ ccN bs q ∧ ccN bs q ≤ 101
  · have hql := qlt (by omega)
    refine leaf (node 1 (ccN bs q - 97) []) (can_c (by omega)) rfl hql ?_ ?_
    · intro σ mk d Q hXR hK
      rw [show d + (dx + 2) = (d + dx - 7) + 9 by omega]
      refine x_atom hb hXR hp ?_ ?_ ?_ ?_
      · rw [hq]; exact fun v' h1 h2 => (by omega : False).elim
      · rw [hq]; exact fun z1 z2 => hK
      · rw [hq]; exact fun z1 z2 => (by omega : False).elim
      · rw [hq]; exact fun z1 z2 z3 => (by omega : False).elim
    · intro σ f T d Q hMR hT1 hT2 hK
      rw [show d + (dm + 2) = (d + dm - 1) + 3 by omega]
      refine m_atom hb hMR hp hT1 hT2 ?_ ?_ ?_ ?_ ?_ ho
      · rw [hq]; exact fun v' h1 h2 => (by omega : False).elim
      · rw [hq]; exact fun z1 z2 => hK
      · rw [hq]; exact fun z1 z2 => (by omega : False).elim
      · rw [hq]; exact fun z1 => (by omega : False).elim
      · rw [hq]; exact fun z1 z2 z3 z4 => (by omega : False).elim
  by_cases hf : 102 ≤ ccN bs q ∧ ccN bs q ≤ 104
  · -- a function
    have hql := qlt (by omega)
    obtain ⟨r1, r2, r3⟩ := skp_ok (bs := bs) (p := q + 1) (by omega)
    have ha3 : ccN bs q - 102 < 3 := by omega
    have xgo : ∀ (σ : am_S) (mk d : Nat) (Q : Option Nat → am_S → Prop), XR bs σ p o mk → (∀ τ, xF 0 σ τ → XR bs τ (q + 1) o mk → gP τ = gP σ → am_X rn am_Lx IX6_atom (d + dx + 2) 50 [some (.ref 7), some (.int (nI (ccN bs q))), some (.int (-1)), some (.int (-1)), some (.int (nI (ccN bs q - 102))), none] [] τ Q) → am_K rn am_Lx IX6_atom (d + (dx + 2)) [.ref 7] σ Q := by
      intro σ mk d Q hXR hK
      rw [show d + (dx + 2) = (d + dx - 7) + 9 by omega]
      rw [show d + dx + 2 = (d + dx - 7) + 9 by omega] at hK
      refine x_atom hb hXR hp ?_ ?_ ?_ ?_
      · rw [hq]; exact fun v' h1 h2 => (by omega : False).elim
      · rw [hq]; exact fun z1 z2 => (by omega : False).elim
      · rw [hq]; exact fun z1 z2 => hK
      · rw [hq]; exact fun z1 z2 z3 => (by omega : False).elim
    have mgo : ∀ (σ : am_S) (f T d : Nat) (Q : Int32 → am_S → Prop), MR bs σ p o f T → 17280 ≤ T → T < 60000 → (∀ τ, wr T f σ τ → MR bs τ (q + 1) o f T → am_K ri am_Lm IX11_readFunction (d + dm + 1) [.ref 0, .int (nI (ccN bs q - 102))] τ Q) → am_K ri am_Lm IX11_readAtom (d + (dm + 2)) [.ref 0] σ Q := by
      intro σ f T d Q hMR hT1 hT2 hK
      rw [show d + (dm + 2) = (d + dm - 1) + 3 by omega]
      rw [show d + dm + 1 = (d + dm - 1) + 2 by omega] at hK
      refine m_atom hb hMR hp hT1 hT2 ?_ ?_ ?_ ?_ ?_ ho
      · rw [hq]; exact fun v' h1 h2 => (by omega : False).elim
      · rw [hq]; exact fun z1 z2 => (by omega : False).elim
      · rw [hq]; exact fun z1 z2 => hK
      · rw [hq]; exact fun z1 => (by omega : False).elim
      · rw [hq]; exact fun z1 z2 z3 z4 => (by omega : False).elim
    by_cases hop : bs[skp bs (q + 1)]? = some 40 ∧ o < 8
    · have hrl := get_lt hop.1
      obtain ⟨LR, rR, xR, mR⟩ := jF (a := ccN bs q - 102) hb (by omega) (by omega) ha3 hdx hdm (item hop.2) 2 (skp bs (q + 1) + 1) [] (skp bs (q + 1) + 1) (by simp) (by omega) (by simp) (by simp)
      -- the class
      have xcl : ∀ (σ : am_S) (mk d : Nat) (Q : Option Nat → am_S → Prop), XR bs σ p o mk → mk ≤ p → bud (2 * (3 * (bs.length - p) + 0)) (13 * (3 * (bs.length - p) + 0)) σ → (match LR with
          | .inl e => ∀ τ, xF (3 * (e - p)) σ τ → gS τ 7 5 = nI e → gS τ 3 3 = nI mk → stB mk σ τ → Q none τ
          | .inr (p', ys) => (bs[skp bs p']? = some 41 → ∀ ov τ, xF (3 * (p' - p) - 2) σ τ → XR bs τ (skp bs p' + 1) o mk → stB mk σ τ → Ro τ ov (node 2 (ccN bs q - 102) ys) → Q ov τ) ∧ (bs[skp bs p']? ≠ some 41 → ∀ τ, xF (3 * (p' - p)) σ τ → gS τ 7 5 = nI (skp bs p') → gS τ 3 3 = nI mk → stB mk σ τ → Q none τ)) → am_K rn am_Lx IX6_atom (d + (dx + 2)) [.ref 7] σ Q := by
        intro σ mk d Q hXR hmk hbud hQ
        refine xgo σ mk d Q hXR (fun τ g1 g2 g3 => ?_)
        rw [show d + dx + 2 = (d + dx - 1) + 3 by omega]
        refine x_open hb g2 (by omega) hop.2 hop.1 (fun υ k1 k2 k3 => ⟨fun z => absurd z (nI_pos (by omega)), fun _ => ?_⟩)
        have g4 : xF 0 σ υ := xF_mono (xF_trans g1 k1) (by omega)
        have bu : bud (2 * (3 * (bs.length - (skp bs (q + 1) + 1)) + 3)) (13 * (3 * (bs.length - (skp bs (q + 1) + 1)) + 3)) υ := bud_xF (k := 0) (bud_mono hbud (by omega) (by omega)) g4
        refine vX6_called (vX2_mark ?_)
        rw [k2.2.2.2.2.1, show d + dx - 1 + 1 + 1 = d + dx + 1 by omega]
        refine xR υ mk d _ (by simpa using k2) (by simp; omega) (fun i y hy => by simp at hy) bu ?_
        cases LR with
        | inl e =>
          have hre := rR.1
          have hre2 := rR.2
          exact fun ω w1 w2 w3 w4 => cl_both (cl_err (d := d + dx) w2 (by omega) (hQ ω (xF_mono (xF_trans g4 w1) (by omega)) w2 w3 (stB_trans (stB_eq (k3.trans g3)) w4)))
        | inr R3 =>
          obtain ⟨p', ys⟩ := R3
          have hre := rR.1
          intro ov ω p1 w1 w2 w3 w4 w5 w6
          have hp'1 := (skp_ok (bs := bs) rR.2.1).1
          refine cl_both (cl_ok (d := d + dx - 1) hb w2 w3 (fun hs ψ v1 v2 v3 => ?_) (fun hs ψ v1 v2 v3 v4 => ?_) |> fun z => (by rw [show d + dx - 1 + 2 = d + dx + 1 by omega] at z; exact z))
          · rw [w4] at hs v2
            exact hQ.1 hs ov ψ (xF_mono (xF_trans (xF_trans g4 w1) v1) (by omega)) v2 (stB_trans (stB_trans (stB_eq (k3.trans g3)) w5) (stB_eq v3)) (Ro_ext w6 (gw_ext v1))
          · rw [w4] at hs v2
            exact hQ.2 hs ψ (xF_mono (xF_trans (xF_trans g4 w1) v1) (by omega)) v2 v3 (stB_trans (stB_trans (stB_eq (k3.trans g3)) w5) (stB_eq v4))
      have mcl : ∀ (σ : am_S) (f T d : Nat) (Q : Int32 → am_S → Prop), MR bs σ p o f T → f ≤ p → 17280 ≤ T → T ≤ 17280 + 132 * p → (match LR with
          | .inl e => ∀ v τ g, wr 17280 0 σ τ → gS τ 0 10 = nI e → gS τ 0 12 = 1 → gS τ 0 7 = nI g → g ≤ e + (kk + 1) → Q v τ
          | .inr (p', ys) => (bs[skp bs p']? = some 41 → ∀ q' τ T', wr T f σ τ → MR bs τ (skp bs p' + 1) o f T' → T ≤ T' → T' + 128 ≤ T + 132 * (p' - p) → seg τ q' (node 2 (ccN bs q - 102) ys) → 17280 ≤ q' → q' + (node 2 (ccN bs q - 102) ys).length ≤ T' → Q (nI q') τ) ∧ (bs[skp bs p']? ≠ some 41 → ∀ v τ g, wr 17280 0 σ τ → gS τ 0 10 = nI (skp bs p') → gS τ 0 12 = 1 → gS τ 0 7 = nI g → g ≤ skp bs p' + (kk + 1) → Q v τ)) → am_K ri am_Lm IX11_readAtom (d + (dm + 2)) [.ref 0] σ Q := by
        intro σ f T d Q hMR hf hT1 hT2 hQ
        refine mgo σ f T d Q hMR hT1 (by omega) (fun τ g1 g2 => ?_)
        rw [show d + dm + 1 = (d + dm - 1) + 2 by omega]
        refine m_fun hb g2 (by omega) hop.2 hop.1 (fun υ k1 k2 => ?_)
        rw [show d + dm - 1 + 2 = d + dm + 1 by omega]
        refine mR υ f T d Q (by simpa using k2) (by simp; omega) hT1 (by omega) (fun i y hy => by simp at hy) ?_
        have g3 : wr T f σ υ := wr_trans g1 k1
        cases LR with
        | inl e => exact fun v ω g w1 w2 w3 w4 w5 => hQ v ω g (wr_trans (wr_mono g3 hT1 (Nat.zero_le _)) w1) w2 w3 w4 w5
        | inr R3 =>
          obtain ⟨p', ys⟩ := R3
          have hre := rR.1
          refine ⟨fun hs q' ω T' w1 w2 w3 w4 w5 w6 w7 => hQ.1 hs q' ω T' (wr_trans g3 w1) w2 w3 (by omega) w5 w6 w7, fun hs v ω g w1 w2 w3 w4 w5 => hQ.2 hs v ω g (wr_trans (wr_mono g3 hT1 (Nat.zero_le _)) w1) w2 w3 w4 w5⟩
      cases LR with
      | inl e =>
        refine ⟨.inl e, ⟨by have := rR.1; omega, rR.2⟩, ?_, ?_⟩
        · intro σ mk d Q hXR hmk hbud hQ
          exact xcl σ mk d Q hXR hmk hbud (fun τ g1 g2 g3 g4 => hQ τ (xF_mono g1 (by omega)) g2 g3 g4)
        · intro σ f T d Q hMR hf hT1 hT2 hQ
          exact mcl σ f T d Q hMR hf hT1 hT2 hQ
      | inr R3 =>
        obtain ⟨p', ys⟩ := R3
        obtain ⟨rR1, rR2, rR3, rR4, rR5, rR6⟩ := rR
        obtain ⟨s1, s2, s3⟩ := skp_ok (bs := bs) rR2
        by_cases hcl : bs[skp bs p']? = some 41
        · have hsl := get_lt hcl
          refine ⟨.inr (skp bs p' + 1, node 2 (ccN bs q - 102) ys), ⟨by omega, by omega, Can_mk (Or.inr (Or.inr (Or.inl ⟨rfl, ha3, rR4, rR5⟩))) rR3, by rw [node_len]; omega⟩, ?_, ?_⟩
          · intro σ mk d Q hXR hmk hbud hQ
            exact xcl σ mk d Q hXR hmk hbud ⟨fun _ ov τ g1 g2 g3 g4 => hQ ov τ (xF_mono g1 (by omega)) g2 g3 g4, fun z => absurd hcl z⟩
          · intro σ f T d Q hMR hf hT1 hT2 hQ
            exact mcl σ f T d Q hMR hf hT1 hT2 ⟨fun _ q' τ T' w1 w2 w3 w4 w5 w6 w7 => hQ q' τ T' w1 w2 w3 (by omega) w5 w6 w7, fun z => absurd hcl z⟩
        · refine ⟨.inl (skp bs p'), ⟨by omega, s2, skp_skp rR2⟩, ?_, ?_⟩
          · intro σ mk d Q hXR hmk hbud hQ
            exact xcl σ mk d Q hXR hmk hbud ⟨fun z => absurd z hcl, fun _ τ g1 g2 g3 g4 => hQ τ (xF_mono g1 (by omega)) g2 g3 g4⟩
          · intro σ f T d Q hMR hf hT1 hT2 hQ
            exact mcl σ f T d Q hMR hf hT1 hT2 ⟨fun z => absurd z hcl, fun _ => hQ⟩
    · refine ⟨.inl (skp bs (q + 1)), ⟨by omega, r2, skp_skp (by omega)⟩, ?_, ?_⟩
      · intro σ mk d Q hXR hmk hbud hQ
        refine xgo σ mk d Q hXR (fun τ g1 g2 g3 => ?_)
        rw [show d + dx + 2 = (d + dx - 1) + 3 by omega]
        exact x_noopen hb g2 (by omega) ho hop (fun υ k1 k2 k3 k4 => hQ υ (xF_mono (xF_trans g1 k1) (by omega)) k2 k3 (stB_eq (k4.trans g3)))
      · intro σ f T d Q hMR hf hT1 hT2 hQ
        refine mgo σ f T d Q hMR hT1 (by omega) (fun τ g1 g2 => ?_)
        rw [show d + dm + 1 = (d + dm - 1) + 2 by omega]
        exact m_nofun hb g2 (by omega) ho hop (fun v υ k1 k2 k3 k4 => hQ v υ f (wr_mono (wr_trans g1 k1) hT1 (Nat.zero_le _)) k2 k3 k4 (by omega))
  -- no letter
  have skq : skp bs q = q := by rw [← hq]; exact skp_skp hp
  have xgo : ∀ (σ : am_S) (mk d : Nat) (Q : Option Nat → am_S → Prop), XR bs σ p o mk → (∀ τ, xF 0 σ τ → XR bs τ q o mk → gP τ = gP σ → am_X rn am_Lx IX6_atom (d + dx + 2) 50 [some (.ref 7), some (.int (nI (ccN bs q))), some (.int (-1)), some (.int (-1)), some (.int (-1)), none] [] τ Q) → am_K rn am_Lx IX6_atom (d + (dx + 2)) [.ref 7] σ Q := by
    intro σ mk d Q hXR hK
    rw [show d + (dx + 2) = (d + dx - 7) + 9 by omega]
    rw [show d + dx + 2 = (d + dx - 7) + 9 by omega] at hK
    refine x_atom hb hXR hp ?_ ?_ ?_ ?_
    · rw [hq]; exact fun v' h1 h2 => (by omega : False).elim
    · rw [hq]; exact fun z1 z2 => (by omega : False).elim
    · rw [hq]; exact fun z1 z2 => (by omega : False).elim
    · rw [hq]; exact fun z1 z2 z3 => hK
  by_cases hop : bs[q]? = some 40 ∧ o < 8
  · have hql := get_lt hop.1
    have hop1 : bs[skp bs q]? = some 40 := by rw [skq]; exact hop.1
    have e40 : ccN bs q = 40 := (cc_some (by omega)).mpr hop.1
    obtain ⟨R, rR, xR, mR⟩ := item hop.2 (q + 1) (by omega)
    have m1 : (-1 : Int32) < 0 := by decide
    have xcl : ∀ (σ : am_S) (mk d : Nat) (Q : Option Nat → am_S → Prop), XR bs σ p o mk → mk ≤ p → bud (2 * (3 * (bs.length - p) + 0)) (13 * (3 * (bs.length - p) + 0)) σ → (match R with
        | .inl e => ∀ τ, xF (3 * (e - p)) σ τ → gS τ 7 5 = nI e → gS τ 3 3 = nI mk → stB mk σ τ → Q none τ
        | .inr (p', x) => (bs[skp bs p']? = some 41 → ∀ ov τ, xF (3 * (p' - p) - 2) σ τ → XR bs τ (skp bs p' + 1) o mk → stB mk σ τ → Ro τ ov x → Q ov τ) ∧ (bs[skp bs p']? ≠ some 41 → ∀ τ, xF (3 * (p' - p)) σ τ → gS τ 7 5 = nI (skp bs p') → gS τ 3 3 = nI mk → stB mk σ τ → Q none τ)) → am_K rn am_Lx IX6_atom (d + (dx + 2)) [.ref 7] σ Q := by
      intro σ mk d Q hXR hmk hbud hQ
      refine xgo σ mk d Q hXR (fun τ g1 g2 g3 => ?_)
      rw [show d + dx + 2 = (d + dx - 1) + 3 by omega]
      refine x_open hb g2 q2 hop.2 hop1 (fun υ k1 k2 k3 => ⟨fun _ => ?_, fun z => absurd m1 z⟩)
      rw [skq] at k2
      have g4 : xF 0 σ υ := xF_mono (xF_trans g1 k1) (by omega)
      have bu : bud (2 * (3 * (bs.length - (q + 1)) + 2)) (13 * (3 * (bs.length - (q + 1)) + 2)) υ := bud_xF (k := 0) (bud_mono hbud (by omega) (by omega)) g4
      rw [show d + dx - 1 + 2 = (d + 1) + dx by omega]
      refine xR υ mk (d + 1) _ k2 (by omega) bu ?_
      cases R with
      | inl e =>
        have hre := rR.1
        have hre2 := rR.2
        exact fun ω w1 w2 w3 w4 => cl_both (cl_err (d := d + dx) w2 (by omega) (hQ ω (xF_mono (xF_trans g4 w1) (by omega)) w2 w3 (stB_trans (stB_eq (k3.trans g3)) w4)) |> fun z => (by rw [show d + dx + 1 = d + 1 + dx by omega] at z; exact z))
      | inr R3 =>
        obtain ⟨p', x⟩ := R3
        have hre := rR.1
        intro ov ω w1 w2 w5 w6
        refine cl_both (cl_ok (d := d + dx - 1) hb w2 rR.2.1 (fun hs ψ v1 v2 v3 => ?_) (fun hs ψ v1 v2 v3 v4 => ?_) |> fun z => (by rw [show d + dx - 1 + 2 = d + 1 + dx by omega] at z; exact z))
        · exact hQ.1 hs ov ψ (xF_mono (xF_trans (xF_trans g4 w1) v1) (by omega)) v2 (stB_trans (stB_trans (stB_eq (k3.trans g3)) w5) (stB_eq v3)) (Ro_ext w6 (gw_ext v1))
        · exact hQ.2 hs ψ (xF_mono (xF_trans (xF_trans g4 w1) v1) (by omega)) v2 v3 (stB_trans (stB_trans (stB_eq (k3.trans g3)) w5) (stB_eq v4))
    have mcl : ∀ (σ : am_S) (f T d : Nat) (Q : Int32 → am_S → Prop), MR bs σ p o f T → f ≤ p → 17280 ≤ T → T ≤ 17280 + 132 * p → (match R with
        | .inl e => ∀ v τ g, wr 17280 0 σ τ → gS τ 0 10 = nI e → gS τ 0 12 = 1 → gS τ 0 7 = nI g → g ≤ e + kk → Q v τ
        | .inr (p', x) => (bs[skp bs p']? = some 41 → ∀ q' τ T', wr T f σ τ → MR bs τ (skp bs p' + 1) o f T' → T ≤ T' → T' ≤ T + 132 * (p' - (q + 1)) → seg τ q' x → 17280 ≤ q' → q' + x.length ≤ T' → Q (nI q') τ) ∧ (bs[skp bs p']? ≠ some 41 → ∀ v τ g, wr 17280 0 σ τ → gS τ 0 10 = nI (skp bs p') → gS τ 0 12 = 1 → gS τ 0 7 = nI g → g ≤ skp bs p' + kk → Q v τ)) → am_K ri am_Lm IX11_readAtom (d + (dm + 2)) [.ref 0] σ Q := by
      intro σ f T d Q hMR hf hT1 hT2 hQ
      rw [show d + (dm + 2) = (d + dm - 1) + 3 by omega]
      refine m_atom hb hMR hp hT1 (by omega) ?_ ?_ ?_ ?_ ?_ ho
      · rw [hq]; exact fun v' h1 h2 => (by omega : False).elim
      · rw [hq]; exact fun z1 z2 => (by omega : False).elim
      · rw [hq]; exact fun z1 z2 => (by omega : False).elim
      · rw [hq]
        intro _ _ τ g1 g2
        rw [show d + dm - 1 + 2 = (d + 1) + dm by omega]
        refine mR τ f T (d + 1) _ g2 (by omega) hT1 (by omega) ?_
        cases R with
        | inl e =>
          intro v ω g w1 w2 w3 w4 w5
          refine ⟨fun _ => ?_, fun z => ?_⟩
          · rw [show d + 1 + dm = (d + dm) + 1 by omega]
            exact vX11_fail ⟨Or.inr rfl, hQ _ _ g (wr_S (wr_trans (wr_mono g1 hT1 (Nat.zero_le _)) w1) (by simp)) (by rw [wS_ne (by omega)]; exact w2) (wS_at _ _ _ _) (by rw [wS_ne (by omega)]; exact w4) w5⟩
          · rw [w3] at z
            exact absurd z (by decide)
        | inr R3 =>
          obtain ⟨p', x⟩ := R3
          intro q' ω T' w1 w2 w3 w4 w5 w6 w7
          obtain ⟨n1, n2, n3, n4, n5, n6, n7⟩ := w2
          refine ⟨fun z => absurd n4 z, fun _ => ?_⟩
          rw [show d + 1 + dm = (d + dm) + 1 by omega]
          refine m_next hb n1 rR.2.1 n2 (fun ψ k1 k2 => ?_)
          have g5 : wr T f σ ω := wr_trans g1 w1
          refine ⟨fun z => ?_, fun z => ?_⟩
          · have hs := (chm_c (c := 41) hb (by omega)).mp z
            have e11 : gS ψ 0 11 = nI (o + 1) := by rw [k1.1 0 11 (by simp)]; exact n3
            rw [k2, e11, nI_1, nI_pred]
            have w8 : ∀ {lo f}, wr lo f ω (wS (wS ψ 0 10 (nI (skp bs p' + 1))) 0 11 (nI o)) := fun {lo f} => wr_S (wr_S (wr_fr10 k1) (by simp)) (by simp)
            exact hQ.1 hs q' _ T' (wr_trans g5 w8) ⟨wr_tm n1 (w8 (lo := 0) (f := 0)), by rw [wS_ne (by omega), wS_at], wS_at _ _ _ _, by rw [wS_ne (by omega), wS_ne (by omega), k1.1 0 12 (by simp)]; exact n4, by rw [wS_ne (by omega), wS_ne (by omega), k1.1 0 7 (by simp)]; exact n5, by rw [wS_ne (by omega), wS_ne (by omega), k1.1 0 4 (by simp)]; exact n6, by rw [wS_ne (by omega), wS_ne (by omega), k1.1 0 5 (by simp)]; exact n7⟩ w3 (by omega) (wr_seg (w8 (lo := T') (f := 0)) w7 w5) w6 w7
          · have hs : bs[skp bs p']? ≠ some 41 := fun e => z ((chm_c (c := 41) hb (by omega)).mpr e)
            have := (skp_ok (bs := bs) rR.2.1).1
            exact vX11_fail ⟨Or.inr rfl, hQ.2 hs _ _ f (wr_S (wr_trans (wr_mono g5 hT1 (Nat.zero_le _)) (wr_fr10 k1)) (by simp)) (by rw [wS_ne (by omega)]; exact k2) (wS_at _ _ _ _) (by rw [wS_ne (by omega), k1.1 0 7 (by simp)]; exact n5) (by have := rR.1; omega)⟩
      · rw [hq]; exact fun z1 z2 z3 z4 => absurd ⟨e40, hop.2⟩ z4
    cases R with
    | inl e =>
      refine ⟨.inl e, ⟨by have := rR.1; omega, rR.2⟩, ?_, ?_⟩
      · intro σ mk d Q hXR hmk hbud hQ
        exact xcl σ mk d Q hXR hmk hbud (fun τ g1 g2 g3 g4 => hQ τ (xF_mono g1 (by omega)) g2 g3 g4)
      · intro σ f T d Q hMR hf hT1 hT2 hQ
        exact mcl σ f T d Q hMR hf hT1 hT2 (fun v τ g w1 w2 w3 w4 w5 => hQ v τ g w1 w2 w3 w4 (by omega))
    | inr R3 =>
      obtain ⟨p', x⟩ := R3
      obtain ⟨rR1, rR2, rR3, rR4⟩ := rR
      obtain ⟨s1, s2, s3⟩ := skp_ok (bs := bs) rR2
      by_cases hcl : bs[skp bs p']? = some 41
      · have hsl := get_lt hcl
        refine ⟨.inr (skp bs p' + 1, x), ⟨by omega, by omega, rR3, by omega⟩, ?_, ?_⟩
        · intro σ mk d Q hXR hmk hbud hQ
          exact xcl σ mk d Q hXR hmk hbud ⟨fun _ ov τ g1 g2 g3 g4 => hQ ov τ (xF_mono g1 (by omega)) g2 g3 g4, fun z => absurd hcl z⟩
        · intro σ f T d Q hMR hf hT1 hT2 hQ
          exact mcl σ f T d Q hMR hf hT1 hT2 ⟨fun _ q' τ T' w1 w2 w3 w4 w5 w6 w7 => hQ q' τ T' w1 w2 w3 (by omega) w5 w6 w7, fun z => absurd hcl z⟩
      · refine ⟨.inl (skp bs p'), ⟨by omega, s2, skp_skp rR2⟩, ?_, ?_⟩
        · intro σ mk d Q hXR hmk hbud hQ
          exact xcl σ mk d Q hXR hmk hbud ⟨fun z => absurd z hcl, fun _ τ g1 g2 g3 g4 => hQ τ (xF_mono g1 (by omega)) g2 g3 g4⟩
        · intro σ f T d Q hMR hf hT1 hT2 hQ
          exact mcl σ f T d Q hMR hf hT1 hT2 ⟨fun z => absurd z hcl, fun _ v τ g w1 w2 w3 w4 w5 => hQ v τ g w1 w2 w3 w4 (by omega)⟩
  · refine ⟨.inl q, ⟨by omega, q2, skq⟩, ?_, ?_⟩
    · intro σ mk d Q hXR hmk hbud hQ
      refine xgo σ mk d Q hXR (fun τ g1 g2 g3 => ?_)
      rw [show d + dx + 2 = (d + dx - 1) + 3 by omega]
      refine x_noopen hb g2 q2 ho (by rw [skq]; exact hop) (fun υ k1 k2 k3 k4 => hQ υ (xF_mono (xF_trans g1 k1) (by omega)) (by rw [skq] at k2; exact k2) k3 (stB_eq (k4.trans g3)))
    · intro σ f T d Q hMR hf hT1 hT2 hQ
      rw [show d + (dm + 2) = (d + dm - 1) + 3 by omega]
      refine m_atom hb hMR hp hT1 (by omega) ?_ ?_ ?_ ?_ ?_ ho
      · rw [hq]; exact fun v' h1 h2 => (by omega : False).elim
      · rw [hq]; exact fun z1 z2 => (by omega : False).elim
      · rw [hq]; exact fun z1 z2 => (by omega : False).elim
      · rw [hq]; exact fun z1 z2 => absurd ⟨(cc_some (by omega)).mp z1, z2⟩ hop
      · rw [hq]; exact fun _ _ _ _ v τ g1 g2 g3 g4 => hQ v τ f (wr_mono g1 hT1 (Nat.zero_le _)) g2 g3 g4 (by omega)
end JA
