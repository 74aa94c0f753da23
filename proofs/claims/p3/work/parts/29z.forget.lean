/-- fewer locals are known -/
def am_le : List (Option Value) → List (Option Value) → Prop
  | [], [] => True
  | none :: r, _ :: t => am_le r t
  | some a :: r, some b :: t => a = b ∧ am_le r t
  | _, _ => False
theorem am_le_ok : ∀ {l l' : List (Option Value)}, am_le l' l → l'.length = l.length ∧ ∀ (i : Nat) (v : Value), l'[i]? = some (some v) → l[i]? = some (some v)
  | [], [], _ => ⟨rfl, fun _ _ h => h⟩
  | x :: t, none :: r, h => by
    obtain ⟨h1, h2⟩ := am_le_ok (l := t) (l' := r) h
    refine ⟨congrArg (· + 1) h1, fun i v hv => ?_⟩
    cases i with
    | zero => simp at hv
    | succ i => simpa using h2 i v (by simpa using hv)
  | some b :: t, some a :: r, h => by
    obtain ⟨e, h0⟩ := h
    obtain ⟨h1, h2⟩ := am_le_ok (l := t) (l' := r) h0
    refine ⟨congrArg (· + 1) h1, fun i v hv => ?_⟩
    cases i with
    | zero => simpa [e] using hv
    | succ i => simpa using h2 i v (by simpa using hv)
  | none :: _, some _ :: _, h => False.elim h
  | [], x :: _, h => by cases x <;> exact False.elim h
  | _ :: _, [], h => False.elim h
theorem am_fg {Λ : am_Lay} {I : am_I} {d pc : Nat} {ls ls' : List (Option Value)} {st : List Value} {σ : am_S} {r0 : Option Value} {σ0 : am_S} (h : am_E Λ I d pc ls' st σ r0 σ0) (hl : am_le ls' ls) : am_E Λ I d pc ls st σ r0 σ0 := am_forget (am_le_ok hl).1 (am_le_ok hl).2 h
