/-! ===== takes ===== -/
def fT (σ τ : am_S) : Prop := fr [(16, 7), (16, 8)] [18, 19, 20, 21, 22] [23] [17] σ τ
theorem fU_fT {σ τ : am_S} (f : fU σ τ) : fT σ τ := fr_mono f (fun x hx => by simp at hx ⊢; exact Or.inl hx) (fun _ h => h) (fun _ h => h) (fun _ h => h)
section TKS
variable {D : List Tm} {d t : Nat} {W : Tm} {Q : Int32 → am_S → Prop}
theorem x_tks {σ0 : am_S} (hI : Ins D σ0) (H1 : ∀ M τ, fT σ0 τ → Pn M M.length 400 τ → M.length ≤ 40 → M[0]? = some W → Q 1 τ) (H0 : ∀ τ, fT σ0 τ → Q 0 τ) : ∀ (n p : Nat) (M : List Tm) (σ : am_S), p + n = 40 → fT σ0 σ → p ≤ M.length → 1 ≤ M.length → Pn M p (1 + 8 * p) σ → M.length + pot M p ≤ 40 → M[0]? = some W → am_X ri am_Lx IX4_takes (d + 45) 24 [some (.ref 16), some (.ref t), some (.ref 12), some (.int (nI 1)), some (.int (nI p))] [] σ Q := by
  have hIf : ∀ σ, fT σ0 σ → Ins D σ := fun σ f => Ins_fr hI f (by decide) (by decide) (by decide) (by decide) (by decide) (by decide)
  intro n
  induction n with
  | zero =>
    intro p M σ hn f hpM hM hP hpot h0
    have e : p = M.length := by omega
    refine vX4_takes_24 ⟨fun z => absurd z (by decide), fun _ => ?_⟩
    rw [hP.1]
    refine ⟨fun _ => ⟨Or.inr rfl, H1 M σ f ?_ (by omega) h0⟩, fun z => absurd (nI_le (by omega) (by omega)) z⟩
    rw [← e]
    exact ⟨hP.1, fun q x hx => by
      obtain ⟨a, b, t', m, o, c1, c2, c3, c4, c5, c6⟩ := hP.2.1 q x hx
      exact ⟨a, b, t', m, o, c1, c2, c3, c4, by omega, c6⟩, hP.2.2⟩
  | succ n ih =>
    intro p M σ hn f hpM hM hP hpot h0
    refine vX4_takes_24 ⟨fun z => absurd z (by decide), fun _ => ?_⟩
    rw [hP.1]
    refine ⟨fun z => ⟨Or.inr rfl, ?_⟩, fun z => ?_⟩
    · have e : p = M.length := by
        have := (nI_leI (by omega) (by omega)).mp z
        omega
      refine H1 M σ f ?_ (by omega) h0
      rw [← e]
      exact ⟨hP.1, fun q x hx => by
        obtain ⟨a, b, t', m, o, c1, c2, c3, c4, c5, c6⟩ := hP.2.1 q x hx
        exact ⟨a, b, t', m, o, c1, c2, c3, c4, by omega, c6⟩, hP.2.2⟩
    · have hlt : p < M.length := by
        rcases Nat.lt_or_ge p M.length with y | y
        · exact y
        · exact absurd (nI_le y (by omega)) z
      refine x_unfolds (d := d) hlt hP hpot (List.getElem?_eq_getElem hlt) (hIf σ f) (fun M' τ f' hP' hpre hle hpot' => ?_) (fun τ f' => ?_)
      · rw [nI_1]
        exact ih (p + 1) M' τ (by omega) (fr_trans f (fU_fT f')) (by omega) (by omega) hP' hpot' (by rw [hpre 0 (by omega)]; exact h0)
      · rw [nI_1]
        exact vX4_takes_24 ⟨fun _ => ⟨Or.inl rfl, H0 τ (fr_trans f (fU_fT f'))⟩, fun w => absurd rfl w⟩
theorem x_ptakes {σ : am_S} (hI : Ins D σ) (hW : Can W) (hf : fits W) (hr : Rp σ t W) (H1 : ∀ M τ, fT σ τ → Pn M M.length 400 τ → M.length ≤ 40 → M[0]? = some W → Q 1 τ) (H0 : ∀ τ, fT σ τ → Q 0 τ) : am_K ri am_Lx IX4_takes (d + 45) [.ref 16, .ref t, .ref 12] σ Q := by
  have f0 : fT σ (wS (wS σ 16 8 (gS σ t 4)) 16 7 0) := fr_wS (fr_wS fr_rfl (by simp)) (by simp)
  have hR0 := fr_R f0 (by decide) (by decide) hr
  refine vX4_takes ⟨Rp_T hr, x_padd (x := W) (S := 0) (d := d + 43) (wS_at _ _ _ _) (by decide) hR0 ?_⟩
  have h40 := hf.1
  refine x_tks hI H1 H0 40 0 [W] _ (by omega) (fr_wS (fr_wA (fr_wA (fr_wP f0 (by simp)) (by simp)) (by simp)) (by simp)) (by simp) (by simp) ⟨wS_at _ _ _ _, fun q x hx => ?_, fun q x hq _ => by omega⟩ ?_ rfl
  · obtain ⟨hq, e⟩ := List.getElem?_eq_some_iff.mp hx
    have hq0 : q = 0 := by simp at hq; exact hq
    subst hq0
    have ex : W = x := by simpa using hx
    subst ex
    refine ⟨hW, hf, t, 1, 0, ?_, fr_R (fr_wS (fr_wA (fr_wA (fr_wP f0 (by simp)) (by simp)) (by simp)) (by simp) : fT σ _) (by decide) (by decide) hr, ?_, by omega, by omega, ?_, by omega⟩
    · show gP (wP _ 17 0 (some t)) 17 0 = _
      rw [wP_at]
    · show gA (wA (wA (wP _ 17 0 (some t)) 19 0 1) 20 0 (nI 0)) 19 0 = _
      rw [wA_ne (by omega), wA_at]
      rfl
    · show gA (wA (wA (wP _ 17 0 (some t)) 19 0 1) 20 0 (nI 0)) 20 0 = _
      rw [wA_at]
  · show 1 + (((([W] : List Tm).drop 0).map (fun x => x.length - 1)).sum) ≤ 40
    simp
    omega
end TKS
