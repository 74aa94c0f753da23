/-! ===== slots; told, part, order, join ===== -/
theorem blX10_told_32 {d : Nat} {σ σ0 : am_S} {r0 : Option Value} {l1 l2 : Int32} {t : Nat} (h0 : l2 = 0 → am_E am_Lx IX10_told (d + 1) 64 [some (.ref 0), some (.int l1), some (.int l2), some (.ref t)] [] σ r0 σ0) (h1 : l2 = 1 → am_E am_Lx IX10_told (d + 1) 69 [some (.ref 0), some (.int l1), some (.int l2), some (.ref t)] [] σ r0 σ0) (h2 : l2 = 2 → am_E am_Lx IX10_told (d + 1) 74 [some (.ref 0), some (.int l1), some (.int l2), some (.ref t)] [] σ r0 σ0) (h3 : l2 = 3 → am_E am_Lx IX10_told (d + 1) 80 [some (.ref 0), some (.int l1), some (.int l2), some (.ref t)] [] σ r0 σ0) (h4 : l2.toInt < 0 ∨ 3 < l2.toInt → am_E am_Lx IX10_told (d + 1) 85 [some (.ref 0), some (.int l1), some (.int l2), some (.ref t)] [] σ r0 σ0) : am_E am_Lx IX10_told (d + 1) 32 [some (.ref 0), some (.int l1), some (.int l2), some (.ref t)] [] σ r0 σ0 := am_run am_okX10_told am_tok_ok 2 (And.intro h4 (fun k hk e => match k, hk, e with
  | 0, _, e => h0 e
  | 1, _, e => h1 e
  | 2, _, e => h2 e
  | 3, _, e => h3 e
  | k + 4, hk, _ => absurd hk (Nat.not_lt.mpr (Nat.le_add_left 4 k))))
theorem blX10_told_64 {d : Nat} {σ σ0 : am_S} {r0 : Option Value} {l1 l2 : Int32} {t : Nat} (o0 : am_isT am_Lx σ t) (h1 : r0 = some (.int (gS σ t 0))) (h2 : σ0 = σ) : am_E am_Lx IX10_told (d + 1) 64 [some (.ref 0), some (.int l1), some (.int l2), some (.ref t)] [] σ r0 σ0 := am_run am_okX10_told am_tok_ok 3 (And.intro o0 (And.intro trivial (And.intro h1 h2)))
theorem blX10_told_69 {d : Nat} {σ σ0 : am_S} {r0 : Option Value} {l1 l2 : Int32} {t : Nat} (o0 : am_isT am_Lx σ t) (h1 : r0 = some (.int (gS σ t 1))) (h2 : σ0 = σ) : am_E am_Lx IX10_told (d + 1) 69 [some (.ref 0), some (.int l1), some (.int l2), some (.ref t)] [] σ r0 σ0 := am_run am_okX10_told am_tok_ok 3 (And.intro o0 (And.intro trivial (And.intro h1 h2)))
theorem blX10_told_74 {d : Nat} {σ σ0 : am_S} {r0 : Option Value} {l1 l2 : Int32} {t : Nat} (o0 : am_isT am_Lx σ t) (h1 : gQ σ t = none → am_E am_Lx IX10_told (d + 1) 78 [some (.ref 0), some (.int l1), some (.int l2), some (.ref t)] [.null] σ r0 σ0) (h2 : ∀ b, gQ σ t = some b → am_E am_Lx IX10_told (d + 1) 78 [some (.ref 0), some (.int l1), some (.int l2), some (.ref t)] [.ref b] σ r0 σ0) : am_E am_Lx IX10_told (d + 1) 74 [some (.ref 0), some (.int l1), some (.int l2), some (.ref t)] [] σ r0 σ0 := am_run am_okX10_told am_tok_ok 2 (And.intro o0 (And.intro h1 h2))
theorem blX10_told_78 {d : Nat} {σ σ0 : am_S} {r0 : Option Value} {l1 l2 : Int32} {t b : Nat} (o0 : am_isA am_Lx σ b) (h1 : r0 = some (.int (Int32.ofNat (am_rl am_Lx σ b)))) (h2 : σ0 = σ) : am_E am_Lx IX10_told (d + 1) 78 [some (.ref 0), some (.int l1), some (.int l2), some (.ref t)] [.ref b] σ r0 σ0 := am_run am_okX10_told am_tok_ok 2 (And.intro o0 (And.intro trivial (And.intro h1 h2)))
theorem blX10_told_80 {d : Nat} {σ σ0 : am_S} {r0 : Option Value} {l1 l2 : Int32} {t : Nat} (o0 : am_isT am_Lx σ t) (h1 : r0 = some (.int (gS σ t 3))) (h2 : σ0 = σ) : am_E am_Lx IX10_told (d + 1) 80 [some (.ref 0), some (.int l1), some (.int l2), some (.ref t)] [] σ r0 σ0 := am_run am_okX10_told am_tok_ok 3 (And.intro o0 (And.intro trivial (And.intro h1 h2)))
theorem blX10_told_85 {d : Nat} {σ σ0 σ1 : am_S} {r0 : Option Value} {l1 l2 rv : Int32} {t : Nat} (o0 : am_isT am_Lx σ t) (hC : am_Ctr am_Lx IJ6_bitCount_0f7a4 d [.int (gS σ t 4)] σ (some (.int rv)) σ1) (h1 : r0 = some (.int rv)) (h2 : σ0 = σ1) : am_E am_Lx IX10_told (d + 1) 85 [some (.ref 0), some (.int l1), some (.int l2), some (.ref t)] [] σ r0 σ0 := am_run am_okX10_told am_tok_ok 4 (And.intro o0 (Exists.intro _ (Exists.intro _ (And.intro hC (And.intro trivial (And.intro h1 h2))))))
set_option maxRecDepth 20000 in
theorem w_told {d : Nat} {σ : am_S} {Q : Int32 → am_S → Prop} {l1 : Int32} {l2 : Int32} (H :
    am_K ri am_Lx IX10_isSlot d [.int l1] σ (fun r1 σ1 =>
      (r1 = 0 →
        Q (-1 : Int32) σ1) ∧
      (¬ r1 = 0 →
        (l2 < 0 →
          Q (-1 : Int32) σ1) ∧
        (¬ l2 < 0 →
          (l2 ≤ (4 : Int32) →
            (vp_in l1 16) ∧
            (gP σ1 1 (l1).toNatClampNeg = none →
              Q (-2 : Int32) σ1) ∧
            (∀ t2, gP σ1 1 (l1).toNatClampNeg = some t2 →
              am_X ri am_Lx IX10_told (d + 1) 32 [some (.ref 0), some (.int l1), some (.int l2), some (.ref t2)] [] σ1 Q)) ∧
          (¬ l2 ≤ (4 : Int32) →
            Q (-1 : Int32) σ1))))) : am_K ri am_Lx IX10_told (d + 1) [.ref 0, .int l1, .int l2] σ Q := K_of am_owX10_told (Nat.le_of_ble_eq_true rfl) (X_call (fun _ _ _ _ => blX10_told_0) (K_mono H (fun r1 σ1 q0 => (X_if (fun _ _ => blX10_told_4) (fun z1 => (X_ret (fun _ _ => blX10_told_16) (q0.1 z1))) (fun z1 => (X_if (fun _ _ => blX10_told_7) (fun z2 => (X_ret (fun _ _ => blX10_told_16) ((q0.2 z1).1 z2))) (fun z2 => (X_if (fun _ _ => blX10_told_11) (fun z3 => (X_opt (fun _ _ => blX10_told_18 (((q0.2 z1).2 z2).1 z3).1) (fun z4 => (X_go (fun _ _ => blX10_told_24_n) (X_ret (fun _ _ => blX10_told_29) ((((q0.2 z1).2 z2).1 z3).2.1 z4)))) (fun t2 z4 => (X_go (fun _ _ => blX10_told_24_r) ((((q0.2 z1).2 z2).1 z3).2.2 t2 z4))))) (fun z3 => (X_ret (fun _ _ => blX10_told_16) (((q0.2 z1).2 z2).2 z3)))))))))))
/-! what a slot holds -/
abbrev Sv : Type := Nat → Option Tm
def Sx (σ : am_S) (V : Sv) : Prop := ∀ s, s < 16 → (V s = none ∧ gP σ 1 s = none) ∨ ∃ x t, V s = some x ∧ gP σ 1 s = some t ∧ Can x ∧ fits x ∧ Rp σ t x
def Sm (σ : am_S) (V : Sv) : Prop := ∀ s, s < 16 → (V s = none ∧ gA σ 7 s = 0) ∨ ∃ x, V s = some x ∧ gA σ 7 s = 1 ∧ Can x ∧ fits x ∧ seg σ (40 * s) x
def uV (V : Sv) (s : Nat) (x : Tm) : Sv := fun k => if k = s then some x else V k
section C1
variable {σ τ : am_S} {V : Sv} {d : Nat}
theorem xs_slot {s : Int32} {Q : Int32 → am_S → Prop} (h1 : ∀ k, k < 16 → s = nI k → Q 1 σ) (h0 : ¬ isSl s → Q 0 σ) : am_K ri am_Lx IX10_isSlot (d + 1) [.int s] σ Q := by
  refine ⟨_, _, x_isSlot s, ?_⟩
  by_cases h : 0 ≤ s.toInt ∧ s.toInt < 16
  · obtain ⟨k, hk, e⟩ := isSl_nI h
    rw [b01_t h]
    exact h1 k hk e
  · rw [b01_f h]
    exact h0 h
theorem ms_slot {s : Int32} {Q : Int32 → am_S → Prop} (h1 : ∀ k, k < 16 → s = nI k → Q 1 σ) (h0 : ¬ isSl s → Q 0 σ) : am_K ri am_Lm IX11_isSlot (d + 2) [.int s] σ Q := by
  refine ⟨_, _, m_isSlot s, ?_⟩
  by_cases h : 0 ≤ s.toInt ∧ s.toInt < 16
  · obtain ⟨k, hk, e⟩ := isSl_nI h
    rw [b01_t h]
    exact h1 k hk e
  · rw [b01_f h]
    exact h0 h
theorem xs_sym {s : Int32} {Q : Int32 → am_S → Prop} (h1 : ∀ k, k < 2 → s = nI k → Q 1 σ) (h0 : ¬ (0 ≤ s.toInt ∧ s.toInt ≤ 1) → Q 0 σ) : am_K ri am_Lx IX10_isSymbol (d + 1) [.int s] σ Q := by
  refine ⟨_, _, x_isSymbol s, ?_⟩
  by_cases h : 0 ≤ s.toInt ∧ s.toInt ≤ 1
  · obtain ⟨k, _, hk, e⟩ := i_2 (n := s) (lo := 0) (hi := 1) (by decide) h
    rw [b01_t h]
    exact h1 k (by omega) e
  · rw [b01_f h]
    exact h0 h
theorem ms_in {n : Int32} {lo hi : Int64} {a b : Nat} {Q : Int32 → am_S → Prop} (e1 : lo.toInt = (a : Int)) (e2 : hi.toInt = (b : Int)) (hb : b < 2 ^ 31) (h1 : ∀ k, a ≤ k → k ≤ b → n = nI k → Q 1 σ) (h0 : ¬ ((a : Int) ≤ n.toInt ∧ n.toInt ≤ b) → Q 0 σ) : am_K ri am_Lm IX11_in (d + 1) [.long n.toInt64, .long lo, .long hi] σ Q := by
  refine ⟨_, _, m_inI e1 e2, ?_⟩
  by_cases h : (a : Int) ≤ n.toInt ∧ n.toInt ≤ b
  · obtain ⟨k, hk1, hk, e⟩ := i_2 (n := n) (lo := a) (hi := b) hb h
    rw [b01_t h]
    exact h1 k hk1 hk e
  · rw [b01_f h]
    exact h0 h
noncomputable def toldV (V : Sv) (s w : Nat) : Int32 := match V s with
  | none => -2
  | some x => if w = 0 then nI (kd x) else if w = 1 then nI (nm x) else if w = 2 then nI (pts x).length else if w = 3 then nI x.length else nI (pop 22 (vb x))
theorem x_told {s w : Int32} {Q : Int32 → am_S → Prop} (hV : Sx σ V) (h1 : ∀ k j, k < 16 → j ≤ 4 → s = nI k → w = nI j → Q (toldV V k j) σ) (h0 : ¬ (isSl s ∧ 0 ≤ w.toInt ∧ w.toInt ≤ 4) → Q (-1) σ) : am_K ri am_Lx IX10_told (d + 2) [.ref 0, .int s, .int w] σ Q := by
  refine w_told (xs_slot (d := d) (fun k hk e => ⟨fun z => absurd z (by decide), fun _ => ?_⟩) (fun h => ⟨fun _ => h0 fun z => h z.1, fun z => absurd rfl z⟩))
  have hsl : isSl s := by rw [e]; exact nI_sl hk
  by_cases hw : 0 ≤ w.toInt ∧ w.toInt ≤ 4
  · obtain ⟨j, _, hj, ew⟩ := i_2 (n := w) (lo := 0) (hi := 4) (by decide) hw
    subst ew e
    refine ⟨fun z => absurd z (nI_pos (by omega)), fun _ => pk_le j 4 (fun _ => ⟨vp_sl hsl, ?_⟩) (fun h => by omega)⟩
    rw [nI_clamp (n := k) (by omega)]
    have hQ := h1 k j hk hj rfl rfl
    rcases hV k hk with ⟨v1, v2⟩ | ⟨x, t, v1, v2, hc, hf, hr⟩
    · refine o_n v2 ?_
      unfold toldV at hQ
      rw [v1] at hQ
      exact hQ
    · refine o_s v2 ?_
      unfold toldV at hQ
      rw [v1] at hQ
      obtain ⟨r1, r2, r3, r4⟩ := Rp_kd hr
      obtain ⟨b, q1, q2, q3⟩ := Rp_pts hr
      have hT := Rp_T hr
      have tj : (nI j).toInt = (j : Int) := nI_toInt (by omega)
      have hj5 : j = 0 ∨ j = 1 ∨ j = 2 ∨ j = 3 ∨ j = 4 := by omega
      rcases hj5 with e | e | e | e | e
      · subst e
        exact ⟨_, σ, blX10_told_32 (fun _ => blX10_told_64 hT rfl rfl) (fun z => absurd z (by decide)) (fun z => absurd z (by decide)) (fun z => absurd z (by decide)) (fun z => absurd z (by decide)), by rw [r1]; exact hQ⟩
      · subst e
        exact ⟨_, σ, blX10_told_32 (fun z => absurd z (by decide)) (fun _ => blX10_told_69 hT rfl rfl) (fun z => absurd z (by decide)) (fun z => absurd z (by decide)) (fun z => absurd z (by decide)), by rw [r2]; exact hQ⟩
      · subst e
        refine ⟨_, σ, blX10_told_32 (fun z => absurd z (by decide)) (fun z => absurd z (by decide)) (fun _ => blX10_told_74 hT (fun z => by rw [q1] at z; cases z) (fun b' z => ?_)) (fun z => absurd z (by decide)) (fun z => absurd z (by decide)), hQ⟩
        rw [q1] at z
        cases z
        refine blX10_told_78 (ar_A q2) ?_ rfl
        rw [ar_L q2]
        rfl
      · subst e
        exact ⟨_, σ, blX10_told_32 (fun z => absurd z (by decide)) (fun z => absurd z (by decide)) (fun z => absurd z (by decide)) (fun _ => blX10_told_80 hT rfl rfl) (fun z => absurd z (by decide)), by rw [r3]; exact hQ⟩
      · subst e
        obtain ⟨v, σ', c1, c2, c3⟩ := x_bitCount (σ := σ) (d := d) (Q := fun v σ' => v = nI (pop 22 (vb x)) ∧ σ' = σ) (vb_lt x hc) ⟨rfl, rfl⟩
        subst c2 c3
        rw [← r4] at c1
        exact ⟨_, σ', blX10_told_32 (fun z => absurd z (by decide)) (fun z => absurd z (by decide)) (fun z => absurd z (by decide)) (fun z => absurd z (by decide)) (fun _ => blX10_told_85 hT c1 rfl rfl), hQ⟩
  · have hn : Q (-1) σ := h0 fun z => hw z.2
    refine ⟨fun _ => hn, fun z => ⟨fun z2 => ?_, fun _ => hn⟩⟩
    exfalso
    rw [i_lt, l_0] at z
    rw [i_le, l_4] at z2
    exact hw ⟨by omega, z2⟩
theorem m_40 {k : Nat} : (40 : Int32) * nI k = nI (40 * k) := pk_mul 40 k
theorem m_told {s w : Int32} {Q : Int32 → am_S → Prop} (hV : Sm σ V) (h1 : ∀ k j, k < 16 → j ≤ 4 → s = nI k → w = nI j → Q (toldV V k j) σ) (h0 : ¬ (isSl s ∧ 0 ≤ w.toInt ∧ w.toInt ≤ 4) → Q (-1) σ) : am_K ri am_Lm IX11_told (d + 3) [.ref 0, .int s, .int w] σ Q := by
  refine vX11_told (ms_slot (d := d) (fun k hk e => ⟨fun z => absurd z (by decide), fun _ => ?_⟩) (fun h => ⟨fun _ => h0 fun z => h z.1, fun z => absurd rfl z⟩))
  have hsl : isSl s := by rw [e]; exact nI_sl hk
  refine ms_in (d := d + 1) (a := 0) (b := 4) rfl rfl (by decide) (fun j _ hj ew => ⟨fun _ => ⟨vp_sl hsl, ?_⟩, fun z => absurd z (by decide)⟩) (fun h => ⟨fun z => absurd rfl z, fun _ => h0 fun z => h z.2⟩)
  subst ew e
  rw [nI_clamp (n := k) (by omega)]
  have hQ := h1 k j hk hj rfl rfl
  rcases hV k hk with ⟨v1, v2⟩ | ⟨x, v1, v2, hc, hf, hr⟩
  · rw [v2]
    unfold toldV at hQ
    rw [v1] at hQ
    exact ⟨fun z => absurd rfl z, fun _ => hQ⟩
  · rw [v2]
    unfold toldV at hQ
    rw [v1] at hQ
    refine ⟨fun _ => ?_, fun z => absurd z (by decide)⟩
    obtain ⟨r1, r2, r3, r4⟩ := seg_kd (Can_wf hc) hr
    have hfl := hf.1
    rw [m_40, nI_clamp (n := 40 * k) (by omega), r1, r2, r3, r4]
    have hin : vp_in (nI (40 * k)) 70000 := vp_in_nI (by omega) (by decide)
    refine And.symm (pk_eq j 0 (fun e => ⟨hin, ?_⟩) (fun e0 => And.symm (pk_eq j 1 (fun e => ⟨hin, ?_⟩) (fun e1 => And.symm (pk_eq j 2 (fun e => ⟨hin, ?_⟩) (fun e2 => And.symm (pk_eq j 3 (fun e => ⟨hin, ?_⟩) (fun e3 => ?_))))))))
    · subst e
      exact hQ
    · subst e
      exact hQ
    · subst e
      exact hQ
    · subst e
      exact hQ
    · have e4 : j = 4 := by omega
      subst e4
      exact m_variablesIn (d := d + 1) (Can_wf hc) (Can_nd x hc) hr (by omega) (m_bitsOf (d := d + 1) (vb_lt x hc) hQ)
end C1
