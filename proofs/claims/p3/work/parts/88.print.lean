/-! ===== print, out: the calls ===== -/
def Wx (σ : am_S) (ws : List Nat) : Prop := ws.length ≤ 256 ∧ gS σ 9 1 = nI ws.length ∧ ∀ i w, ws[i]? = some w → gA σ 10 i = nI w
def Wm (σ : am_S) (ws : List Nat) : Prop := ws.length ≤ 256 ∧ gS σ 0 15 = nI ws.length ∧ ∀ i w, ws[i]? = some w → gA σ 8 i = nI w
section PC
variable {σ : am_S} {V : Sv} {d : Nat}
theorem x_print {s : Int32} {Q : Int32 → am_S → Prop} (hV : Sx σ V) (hb : ¬ isSl s → Q (-1) σ) (hn : ∀ k, k < 16 → s = nI k → V k = none → Q (-2) σ) (h1 : ∀ k x τ, k < 16 → s = nI k → V k = some x → gw [(9, 1)] [10] [] [] 0 0 σ τ → Wx τ (pr x) → Q (nI (pr x).length) τ) : am_K ri am_Lx IX10_print (d + 51) [.ref 0, .int s] σ Q := by
  refine vX10_print (xs_slot (d := d + 49) (fun k hk e => ⟨fun _ => ⟨by rw [e]; exact vp_in_nI hk (by decide), ?_⟩, fun z => absurd z (by decide)⟩) (fun h => ⟨fun z => absurd rfl z, fun _ => hb h⟩))
  rw [e, nI_clamp (n := k) (by omega)]
  rcases hV k hk with ⟨v1, v2⟩ | ⟨x, t, v1, v2, hc, hf, hr⟩
  · exact o_n v2 (hn k hk e v1)
  · refine o_s v2 (vX5_printed ?_)
    have g0 : gw [(9, 1)] [10] [] [] 0 0 σ (wS σ 9 1 (0 : Int32)) := gw_wS gw_rfl (by simp) (by omega)
    have hl := (pr_len x hc).1
    have hfl := hf.1
    rw [show d + 49 = (d + 40 - x.length) + 9 + x.length by omega]
    refine x_write x hc t 0 0 _ _ _ (Rp_ext (gw_ext g0) hr) (by omega) (wS_at _ _ _ _) (by omega) (fun τ w => ?_)
    rw [w.2.1, Nat.zero_add]
    refine h1 k x τ hk e v1 (gw_trans g0 w.1) ⟨by omega, by rw [w.2.1, Nat.zero_add], fun i v hv => ?_⟩
    have := w.2.2.2 i v hv
    rw [Nat.zero_add] at this
    exact this
theorem m_print {s : Int32} {Q : Int32 → am_S → Prop} (hV : Sm σ V) (hb : ¬ isSl s → Q (-1) σ) (hn : ∀ k, k < 16 → s = nI k → V k = none → Q (-2) σ) (h1 : ∀ k x τ, k < 16 → s = nI k → V k = some x → fr [(0, 15)] [8] [] [] σ τ → Wm τ (pr x) → Q (nI (pr x).length) τ) : am_K ri am_Lm IX11_print (d + 51) [.ref 0, .int s] σ Q := by
  refine vX11_print (ms_slot (d := d + 48) (fun k hk e => ⟨fun _ => ⟨by rw [e]; exact vp_in_nI hk (by decide), ?_⟩, fun z => absurd z (by decide)⟩) (fun h => ⟨fun z => absurd rfl z, fun _ => hb h⟩))
  rw [e, nI_clamp (n := k) (by omega)]
  rcases hV k hk with ⟨v1, v2⟩ | ⟨x, v1, v2, hc, hf, hr⟩
  · rw [v2]
    exact ⟨fun z => absurd rfl z, fun _ => hn k hk e v1⟩
  · rw [v2]
    refine ⟨fun _ => ?_, fun z => absurd z (by decide)⟩
    have hl := (pr_len x hc).1
    have hfl := hf.1
    have g0 : fr [(0, 15)] [8] [] [] σ (wS σ 0 15 (0 : Int32)) := fr_wS fr_rfl (by simp)
    rw [m_40, show d + 50 = (d + 49 - x.length) + 1 + x.length by omega]
    refine m_writeTerm x hc (40 * k) 0 _ 0 _ _ (Or.inl rfl) (seg_A (σ := σ) rfl hr) (by omega) (wS_at _ _ _ _) (by omega) (fun τ w => ?_)
    rw [if_neg (fun z => z.1 rfl)] at w
    rw [w.2.1, Nat.zero_add]
    refine h1 k x τ hk e v1 (fr_trans g0 w.1) ⟨by omega, by rw [w.2.1, Nat.zero_add], fun i v hv => ?_⟩
    have := w.2.2.2 i v hv
    rw [Nat.zero_add] at this
    exact this
theorem x_out {i : Int32} {ws : List Nat} {Q : Int32 → am_S → Prop} (hW : Wx σ ws) (h0 : ¬ (0 ≤ i.toInt ∧ i.toInt < ws.length) → Q (-2) σ) (h1 : ∀ j w, i = nI j → ws[j]? = some w → Q (nI w) σ) : am_K ri am_Lx IX10_out (d + 2) [.ref 0, .int i] σ Q := by
  obtain ⟨w1, w2, w3⟩ := hW
  refine vX10_out (vX5_byteAt ?_)
  rw [w2]
  by_cases hw : 0 ≤ i.toInt ∧ i.toInt < ws.length
  · obtain ⟨j, _, hj, ei⟩ := i_2 (n := i) (lo := 0) (hi := ws.length - 1) (by omega) ⟨hw.1, by omega⟩
    subst ei
    have hjl : j < ws.length := by
      rw [nI_toInt (by omega)] at hw
      omega
    refine ⟨fun z => absurd z (nI_pos (by omega)), fun _ => pk_lt j ws.length (fun _ => ⟨vp_in_nI (by omega) (by decide), ?_⟩) (fun h => by omega)⟩
    rw [nI_clamp (n := j) (by omega), w3 j _ (List.getElem?_eq_getElem hjl)]
    exact h1 j _ rfl (List.getElem?_eq_getElem hjl)
  · have hq := h0 hw
    refine ⟨fun _ => hq, fun z => ⟨fun z2 => ?_, fun _ => hq⟩⟩
    exfalso
    rw [i_lt, l_0] at z
    rw [i_lt, nI_toInt (by omega)] at z2
    exact hw ⟨by omega, z2⟩
theorem m_out {i : Int32} {ws : List Nat} {Q : Int32 → am_S → Prop} (hW : Wm σ ws) (h0 : ¬ (0 ≤ i.toInt ∧ i.toInt < ws.length) → Q (-2) σ) (h1 : ∀ j w, i = nI j → ws[j]? = some w → Q (nI w) σ) : am_K ri am_Lm IX11_out (d + 2) [.ref 0, .int i] σ Q := by
  obtain ⟨w1, w2, w3⟩ := hW
  refine vX11_out ?_
  rw [w2]
  refine ⟨_, _, m_inI (d := d) (a := 0) (b := (ws.length : Int) - 1) rfl (i_s64 rfl (by omega)), ?_⟩
  by_cases hw : 0 ≤ i.toInt ∧ i.toInt ≤ (ws.length : Int) - 1
  · rw [b01_t hw]
    obtain ⟨j, _, hj, ei⟩ := i_2 (n := i) (lo := 0) (hi := ws.length - 1) (by omega) ⟨hw.1, by omega⟩
    subst ei
    have hjl : j < ws.length := by
      rw [nI_toInt (by omega)] at hw
      omega
    refine ⟨fun z => absurd z (by decide), fun _ => ⟨vp_in_nI (by omega) (by decide), ?_⟩⟩
    rw [nI_clamp (n := j) (by omega), w3 j _ (List.getElem?_eq_getElem hjl)]
    exact h1 j _ rfl (List.getElem?_eq_getElem hjl)
  · rw [b01_f hw]
    exact ⟨fun _ => h0 (by omega), fun z => absurd rfl z⟩
end PC
