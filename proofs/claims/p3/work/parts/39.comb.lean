/-! ===== postconditions: what a frame, a call comes to ===== -/
def ri (v : Int32) : Option Value := some (.int v)
def rj (v : Int64) : Option Value := some (.long v)
def rr (n : Nat) : Option Value := some (.ref n)
def rn (o : Option Nat) : Option Value := match o with
  | none => some .null
  | some n => some (.ref n)
def ru (_ : Unit) : Option Value := none
def am_X {α : Type} (f : α → Option Value) (Λ : am_Lay) (I : am_I) (d pc : Nat) (ls : List (Option Value)) (st : List Value) (σ : am_S) (Q : α → am_S → Prop) : Prop := ∃ a σ0, am_E Λ I d pc ls st σ (f a) σ0 ∧ Q a σ0
def am_K {α : Type} (f : α → Option Value) (Λ : am_Lay) (I : am_I) (d : Nat) (as : List Value) (σ : am_S) (Q : α → am_S → Prop) : Prop := ∃ a σ0, am_Ctr Λ I d as σ (f a) σ0 ∧ Q a σ0
section VC
variable {α β : Type} {f : α → Option Value} {g : β → Option Value} {Λ : am_Lay} {I J : am_I} {d dd pc p1 p2 : Nat} {ls l1 l2 : List (Option Value)} {st s1 s2 : List Value} {σ τ τ1 τ2 : am_S} {Q : α → am_S → Prop} {as : List Value}
theorem K_mono {R : α → am_S → Prop} (h : am_K f Λ I d as σ Q) (i : ∀ a σ', Q a σ' → R a σ') : am_K f Λ I d as σ R := by
  obtain ⟨a, s, h1, h2⟩ := h
  exact ⟨a, s, h1, i a s h2⟩
theorem X_mono {R : α → am_S → Prop} (h : am_X f Λ I d pc ls st σ Q) (i : ∀ a σ', Q a σ' → R a σ') : am_X f Λ I d pc ls st σ R := by
  obtain ⟨a, s, h1, h2⟩ := h
  exact ⟨a, s, h1, i a s h2⟩
theorem K_of (ho : am_own I) (hl : (am_lsA as).length ≤ am_mx I) (h : am_X f Λ I d 0 (am_l0 as (am_mx I)) [] σ Q) : am_K f Λ I d as σ Q := by
  obtain ⟨a, s, h1, h2⟩ := h
  exact ⟨a, s, am_of ho hl h1, h2⟩
theorem X_go (b : ∀ r0 σ0, am_E Λ I d p1 l1 s1 τ1 r0 σ0 → am_E Λ I d pc ls st σ r0 σ0) (h : am_X f Λ I d p1 l1 s1 τ1 Q) : am_X f Λ I d pc ls st σ Q := by
  obtain ⟨a, s, h1, h2⟩ := h
  exact ⟨a, s, b _ _ h1, h2⟩
theorem X_if {c : Prop} (b : ∀ r0 σ0, (c → am_E Λ I d p1 l1 s1 τ1 r0 σ0) → (¬ c → am_E Λ I d p2 l2 s2 τ2 r0 σ0) → am_E Λ I d pc ls st σ r0 σ0) (h1 : c → am_X f Λ I d p1 l1 s1 τ1 Q) (h2 : ¬ c → am_X f Λ I d p2 l2 s2 τ2 Q) : am_X f Λ I d pc ls st σ Q := by
  by_cases hc : c
  · obtain ⟨a, s, z1, z2⟩ := h1 hc
    exact ⟨a, s, b _ _ (fun _ => z1) (fun n => absurd hc n), z2⟩
  · obtain ⟨a, s, z1, z2⟩ := h2 hc
    exact ⟨a, s, b _ _ (fun n => absurd n hc) (fun _ => z1), z2⟩
theorem X_ifn {c : Prop} (b : ∀ r0 σ0, (¬ c → am_E Λ I d p1 l1 s1 τ1 r0 σ0) → (c → am_E Λ I d p2 l2 s2 τ2 r0 σ0) → am_E Λ I d pc ls st σ r0 σ0) (h1 : ¬ c → am_X f Λ I d p1 l1 s1 τ1 Q) (h2 : c → am_X f Λ I d p2 l2 s2 τ2 Q) : am_X f Λ I d pc ls st σ Q := X_if (fun r0 σ0 x y => b r0 σ0 y x) h2 h1
theorem X_opt {o : Option Nat} {L2 : Nat → List (Option Value)} {S2 : Nat → List Value} (b : ∀ r0 σ0, (o = none → am_E Λ I d p1 l1 s1 τ1 r0 σ0) → (∀ t, o = some t → am_E Λ I d p2 (L2 t) (S2 t) τ2 r0 σ0) → am_E Λ I d pc ls st σ r0 σ0) (h1 : o = none → am_X f Λ I d p1 l1 s1 τ1 Q) (h2 : ∀ t, o = some t → am_X f Λ I d p2 (L2 t) (S2 t) τ2 Q) : am_X f Λ I d pc ls st σ Q := by
  cases ho : o with
  | none =>
    obtain ⟨a, s, z1, z2⟩ := h1 ho
    exact ⟨a, s, b _ _ (fun _ => z1) (fun t e => by rw [ho] at e; cases e), z2⟩
  | some t =>
    obtain ⟨a, s, z1, z2⟩ := h2 t ho
    refine ⟨a, s, b _ _ (fun e => by rw [ho] at e; cases e) (fun t' e => ?_), z2⟩
    rw [ho] at e
    cases e
    exact z1
theorem X_ret {a : α} (b : ∀ r0 σ0, r0 = f a → σ0 = τ → am_E Λ I d pc ls st σ r0 σ0) (h : Q a τ) : am_X f Λ I d pc ls st σ Q := ⟨a, τ, b _ _ rfl rfl, h⟩
theorem X_call {L1 : List (Option Value)} {S1 : β → List Value} (b : ∀ v σ1 r0 σ0, am_Ctr Λ J dd as τ (g v) σ1 → am_E Λ I d p1 L1 (S1 v) σ1 r0 σ0 → am_E Λ I d pc ls st σ r0 σ0) (h : am_K g Λ J dd as τ (fun v σ1 => am_X f Λ I d p1 L1 (S1 v) σ1 Q)) : am_X f Λ I d pc ls st σ Q := by
  obtain ⟨v, σ1, h1, a, s, h2, h3⟩ := h
  exact ⟨a, s, b _ _ _ _ h1 h2, h3⟩
theorem X_calln {L1 : List (Option Value)} {S1 : List Value} (b : ∀ v σ1 r0 σ0, am_Ctr Λ J dd as τ (some v) σ1 → am_E Λ I d p1 L1 (v :: S1) σ1 r0 σ0 → am_E Λ I d pc ls st σ r0 σ0) (h : am_K rn Λ J dd as τ (fun o σ1 => (o = none → am_X f Λ I d p1 L1 (.null :: S1) σ1 Q) ∧ (∀ t, o = some t → am_X f Λ I d p1 L1 (.ref t :: S1) σ1 Q))) : am_X f Λ I d pc ls st σ Q := by
  obtain ⟨o, σ1, h1, h4, h5⟩ := h
  cases o with
  | none =>
    obtain ⟨a, s, h2, h3⟩ := h4 rfl
    exact ⟨a, s, b _ _ _ _ h1 h2, h3⟩
  | some t =>
    obtain ⟨a, s, h2, h3⟩ := h5 t rfl
    exact ⟨a, s, b _ _ _ _ h1 h2, h3⟩
end VC
