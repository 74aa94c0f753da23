/-! ===== the class's state grows: what stays, what it costs ===== -/
def gw (S : List (Nat × Nat)) (A J P : List Nat) (c s : Nat) (σ τ : am_S) : Prop := (∀ n k, n < 48 → (n, k) ∉ S → gS τ n k = gS σ n k) ∧ (∀ n, n ∉ A → gA τ n = gA σ n) ∧ (∀ n, n ∉ J → gJ τ n = gJ σ n) ∧ (∀ n, n < 48 → n ∉ P → gP τ n = gP σ n) ∧ ext σ τ ∧ gn τ + gc τ = gn σ + gc σ ∧ gc σ ≤ gc τ + c ∧ gs σ ≤ gs τ + s
section GW
variable {S : List (Nat × Nat)} {A J P : List Nat} {c s c' s' : Nat} {σ τ υ : am_S}
theorem gw_rfl : gw S A J P c s σ σ := ⟨fun _ _ _ _ => rfl, fun _ _ => rfl, fun _ _ => rfl, fun _ _ _ => rfl, ext_rfl, rfl, Nat.le_add_right _ _, Nat.le_add_right _ _⟩
theorem gw_trans (h : gw S A J P c s σ τ) (g : gw S A J P c' s' τ υ) : gw S A J P (c + c') (s + s') σ υ := ⟨fun n k a z => (g.1 n k a z).trans (h.1 n k a z), fun n z => (g.2.1 n z).trans (h.2.1 n z), fun n z => (g.2.2.1 n z).trans (h.2.2.1 n z), fun n a z => (g.2.2.2.1 n a z).trans (h.2.2.2.1 n a z), ext_trans h.2.2.2.2.1 g.2.2.2.2.1, g.2.2.2.2.2.1.trans h.2.2.2.2.2.1, by have := h.2.2.2.2.2.2.1; have := g.2.2.2.2.2.2.1; omega, by have := h.2.2.2.2.2.2.2; have := g.2.2.2.2.2.2.2; omega⟩
theorem gw_mono {S' : List (Nat × Nat)} {A' J' P' : List Nat} (h : gw S A J P c s σ τ) (a : ∀ x ∈ S, x ∈ S') (b : ∀ x ∈ A, x ∈ A') (e : ∀ x ∈ J, x ∈ J') (f : ∀ x ∈ P, x ∈ P') (hc : c ≤ c') (hs : s ≤ s') : gw S' A' J' P' c' s' σ τ := ⟨fun n k y z => h.1 n k y fun w => z (a _ w), fun n z => h.2.1 n fun w => z (b _ w), fun n z => h.2.2.1 n fun w => z (e _ w), fun n y z => h.2.2.2.1 n y fun w => z (f _ w), h.2.2.2.2.1, h.2.2.2.2.2.1, by have := h.2.2.2.2.2.2.1; omega, by have := h.2.2.2.2.2.2.2; omega⟩
theorem gw_fr (h : fr S A J P σ τ) (hS : ∀ x ∈ S, x.1 < 48) (hP : ∀ x ∈ P, x < 48) : gw S A J P 0 0 σ τ := by
  have he := ext_fr h hS hP
  obtain ⟨h1, h2, h3, h4, h5, h6⟩ := h
  exact ⟨fun n k _ z => h1 n k z, h2, h3, fun n _ z => h4 n z, he, by unfold gn gc; rw [h6], by unfold gc; rw [h6]; exact Nat.le_refl _, by unfold gs; rw [h6]; exact Nat.le_refl _⟩
theorem gw_ext (h : gw S A J P c s σ τ) : ext σ τ := h.2.2.2.2.1
theorem gw_S (h : gw S A J P c s σ τ) {n k : Nat} (hn : n < 48) (hm : (n, k) ∉ S) : gS τ n k = gS σ n k := h.1 n k hn hm
theorem gw_A (h : gw S A J P c s σ τ) {n : Nat} (hm : n ∉ A) : gA τ n = gA σ n := h.2.1 n hm
theorem gw_J (h : gw S A J P c s σ τ) {n : Nat} (hm : n ∉ J) : gJ τ n = gJ σ n := h.2.2.1 n hm
theorem gw_P (h : gw S A J P c s σ τ) {n : Nat} (hn : n < 48) (hm : n ∉ P) : gP τ n = gP σ n := h.2.2.2.1 n hn hm
theorem gw_gc (h : gw S A J P c s σ τ) : gc σ ≤ gc τ + c := h.2.2.2.2.2.2.1
theorem gw_gs (h : gw S A J P c s σ τ) : gs σ ≤ gs τ + s := h.2.2.2.2.2.2.2
theorem gw_nc (h : gw S A J P c s σ τ) : gn τ + gc τ = gn σ + gc σ := h.2.2.2.2.2.1
theorem gw_n (h : gw S A J P c s σ τ) : gn σ ≤ gn τ := h.2.2.2.2.1.1
theorem gw_wS {n k : Nat} {v : Int32} (h : gw S A J P c s σ τ) (hm : (n, k) ∈ S) (hn : n < 48) : gw S A J P c s σ (wS τ n k v) := by
  have h1 : fr [(n, k)] [] [] [] τ (wS τ n k v) := fr_wS fr_rfl (by simp)
  have h2 : gw S A J P 0 0 τ (wS τ n k v) := gw_mono (gw_fr h1 (by simp [hn]) (by simp)) (by simp [hm]) (by simp) (by simp) (by simp) (Nat.le_refl 0) (Nat.le_refl 0)
  exact gw_trans h h2
theorem gw_wA {n k : Nat} {v : Int32} (h : gw S A J P c s σ τ) (hm : n ∈ A) : gw S A J P c s σ (wA τ n k v) := by
  have h1 : fr [] [n] [] [] τ (wA τ n k v) := fr_wA fr_rfl (by simp)
  have h2 : gw S A J P 0 0 τ (wA τ n k v) := gw_mono (gw_fr h1 (by simp) (by simp)) (by simp) (by simp [hm]) (by simp) (by simp) (Nat.le_refl 0) (Nat.le_refl 0)
  exact gw_trans h h2
theorem gw_wP {n k : Nat} {v : Option Nat} (h : gw S A J P c s σ τ) (hm : n ∈ P) (hn : n < 48) : gw S A J P c s σ (wP τ n k v) := by
  have h1 : fr [] [] [] [n] τ (wP τ n k v) := fr_wP fr_rfl (by simp)
  have h2 : gw S A J P 0 0 τ (wP τ n k v) := gw_mono (gw_fr h1 (by simp) (by simp [hn])) (by simp) (by simp) (by simp) (by simp [hm]) (Nat.le_refl 0) (Nat.le_refl 0)
  exact gw_trans h h2
theorem gw_wJ {n k : Nat} {v : Int64} (h : gw S A J P c s σ τ) (hm : n ∈ J) : gw S A J P c s σ (wJ τ n k v) := by
  have h1 : fr [] [] [n] [] τ (wJ τ n k v) := fr_wJ fr_rfl (by simp)
  have h2 : gw S A J P 0 0 τ (wJ τ n k v) := gw_mono (gw_fr h1 (by simp) (by simp)) (by simp) (by simp) (by simp [hm]) (by simp) (Nat.le_refl 0) (Nat.le_refl 0)
  exact gw_trans h h2
/-! writes at new names -/
theorem gw_wSd {n k : Nat} {v : Int32} (h : gw S A J P c s σ τ) (hn : gn σ ≤ n) (h48 : 48 ≤ gn σ) : gw S A J P c s σ (wS τ n k v) := by
  obtain ⟨h1, h2, h3, h4, h5, h6, h7, h8⟩ := h
  refine ⟨fun a b y z => ?_, h2, h3, h4, ⟨h5.1, fun a p q => ?_⟩, h6, h7, h8⟩
  · rw [wS_ne (by omega)]; exact h1 a b y z
  · obtain ⟨e1, e2, e3, e4, e5⟩ := h5.2 a p q
    exact ⟨e1, e2, e3, (by rw [← e4]; funext b; exact wS_ne (by omega)), e5⟩
theorem gw_wPd {n k : Nat} {v : Option Nat} (h : gw S A J P c s σ τ) (hn : gn σ ≤ n) (h48 : 48 ≤ gn σ) : gw S A J P c s σ (wP τ n k v) := by
  obtain ⟨h1, h2, h3, h4, h5, h6, h7, h8⟩ := h
  refine ⟨h1, h2, h3, fun a y z => ?_, ⟨h5.1, fun a p q => ?_⟩, h6, h7, h8⟩
  · rw [← h4 a y z]; funext b; exact wP_ne (by omega)
  · obtain ⟨e1, e2, e3, e4, e5⟩ := h5.2 a p q
    exact ⟨e1, e2, e3, e4, by rw [← e5]; funext b; exact wP_ne (by omega)⟩
theorem wQ_ne {n a : Nat} {v : Option Nat} (h : a ≠ n) : gQ (wQ σ n v) a = gQ σ a := if_neg h
theorem wQ_at {n : Nat} {v : Option Nat} : gQ (wQ σ n v) n = v := if_pos rfl
theorem gw_wQd {n : Nat} {v : Option Nat} (h : gw S A J P c s σ τ) (hn : gn σ ≤ n) : gw S A J P c s σ (wQ τ n v) := by
  obtain ⟨h1, h2, h3, h4, h5, h6, h7, h8⟩ := h
  refine ⟨h1, h2, h3, h4, ⟨h5.1, fun a p q => ?_⟩, h6, h7, h8⟩
  obtain ⟨e1, e2, e3, e4, e5⟩ := h5.2 a p q
  exact ⟨e1, e2, by rw [wQ_ne (by omega)]; exact e3, e4, e5⟩
theorem gw_nT (h : gw S A J P c s σ τ) (hc : 1 ≤ gc τ) (hs : 5 ≤ gs τ) (h48 : 48 ≤ gn σ) : gw S A J P (c + 1) (s + 5) σ (am_nT τ) := by
  have hn := gw_n h
  refine gw_trans h ⟨fun a b y z => ?_, fun _ _ => rfl, fun _ _ => rfl, fun _ _ _ => rfl, ⟨Nat.le_succ _, fun a p q => ⟨?_, rfl, ?_, ?_, rfl⟩⟩, ?_, ?_, ?_⟩
  · have : gS (am_nT τ) a = gS τ a := if_neg (by omega)
    rw [this]
  · exact if_neg (by omega)
  · exact if_neg (by omega)
  · exact if_neg (by omega)
  · show gn τ + 1 + (gc τ - 1) = _
    omega
  · show _ ≤ gc τ - 1 + 1
    omega
  · show _ ≤ gs τ - 5 + 5
    omega
theorem gw_nA {n : Nat} (h : gw S A J P c s σ τ) (hc : 1 ≤ gc τ) (hs : n ≤ gs τ) (h48 : 48 ≤ gn σ) : gw S A J P (c + 1) (s + n) σ (am_nA τ n) := by
  have hn := gw_n h
  refine gw_trans h ⟨fun _ _ _ _ => rfl, fun _ _ => rfl, fun _ _ => rfl, fun a y z => ?_, ⟨Nat.le_succ _, fun a p q => ⟨?_, ?_, rfl, rfl, ?_⟩⟩, ?_, ?_, ?_⟩
  · exact if_neg (by omega)
  · exact if_neg (by omega)
  · exact if_neg (by omega)
  · exact if_neg (by omega)
  · show gn τ + 1 + (gc τ - 1) = _
    omega
  · show _ ≤ gc τ - 1 + 1
    omega
  · show _ ≤ gs τ - n + n
    omega
end GW
theorem nT_isT {σ : am_S} (h : 48 ≤ gn σ) : isTm (am_nT σ) (gn σ) := ⟨h, Nat.lt_succ_self _, if_pos rfl⟩
theorem nA_isA {σ : am_S} {n : Nat} (h : 48 ≤ gn σ) : isAr (am_nA σ n) (gn σ) n := ⟨h, Nat.lt_succ_self _, if_pos rfl, if_pos rfl⟩
theorem nA_get {σ : am_S} {n i : Nat} : gP (am_nA σ n) (gn σ) i = none := by
  show va_up (gP σ) (gn σ) (fun _ => none) (gn σ) i = none
  unfold va_up
  rw [if_pos rfl]
/-- room for a while -/
def bud (c s : Nat) (σ : am_S) : Prop := c ≤ gc σ ∧ s ≤ gs σ ∧ gn σ + gc σ < am_sb ∧ 48 ≤ gn σ
theorem bud_gw {S : List (Nat × Nat)} {A J P : List Nat} {c s c' s' : Nat} {σ τ : am_S} (h : bud (c + c') (s + s') σ) (g : gw S A J P c s σ τ) : bud c' s' τ := by
  obtain ⟨h1, h2, h3, h4⟩ := h
  have := gw_gc g
  have := gw_gs g
  have e := gw_nc g
  have := gw_n g
  exact ⟨by omega, by omega, by rw [e]; exact h3, by omega⟩
theorem bud_mono {c s c' s' : Nat} {σ : am_S} (h : bud c s σ) (h1 : c' ≤ c) (h2 : s' ≤ s) : bud c' s' σ := ⟨Nat.le_trans h1 h.1, Nat.le_trans h2 h.2.1, h.2.2⟩
/-! a Term or, where it is too large, null -/
def Ro (σ : am_S) (o : Option Nat) (x : Tm) : Prop := Can x ∧ ((fits x ∧ ∃ t, o = some t ∧ Rp σ t x) ∨ (¬ fits x ∧ o = none))
theorem Ro_ext {σ τ : am_S} {o : Option Nat} {x : Tm} (h : Ro σ o x) (e : ext σ τ) : Ro τ o x := by
  obtain ⟨h1, h2⟩ := h
  refine ⟨h1, ?_⟩
  rcases h2 with ⟨h2, t, h3, h4⟩ | h2
  · exact Or.inl ⟨h2, t, h3, Rp_ext e h4⟩
  · exact Or.inr h2
theorem Ro_some {σ : am_S} {t : Nat} {x : Tm} (h : Ro σ (some t) x) : fits x ∧ Rp σ t x := by
  rcases h.2 with ⟨h2, u, h3, h4⟩ | h2
  · cases h3
    exact ⟨h2, h4⟩
  · cases h2.2
theorem Ro_none {σ : am_S} {x : Tm} (h : Ro σ none x) : ¬ fits x := by
  rcases h.2 with ⟨h2, u, h3, h4⟩ | h2
  · cases h3
  · exact h2.1
