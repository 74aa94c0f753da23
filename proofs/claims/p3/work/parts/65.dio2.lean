/-! ===== the order of vectors ===== -/
theorem lxl_irrefl : ∀ a, ¬ lxl a a
  | [], h => h
  | a :: x, h => by
    rcases h with h | ⟨_, h⟩
    · exact Nat.lt_irrefl _ h
    · exact lxl_irrefl x h
theorem lxl_trans : ∀ a b c, lxl a b → lxl b c → lxl a c
  | [], _, _, h, _ => by cases ‹List Nat› <;> exact False.elim h
  | _ :: _, [], _, h, _ => False.elim h
  | _ :: _, _ :: _, [], _, h => False.elim h
  | a :: x, b :: y, c :: z, h, g => by
    rcases h with h | ⟨e, h⟩
    · rcases g with g | ⟨e2, g⟩
      · exact Or.inl (Nat.lt_trans h g)
      · exact Or.inl (e2 ▸ h)
    · subst e
      rcases g with g | ⟨e2, g⟩
      · exact Or.inl g
      · exact Or.inr ⟨e2, lxl_trans x y z h g⟩
theorem lxl_total : ∀ {a b : List Nat}, a.length = b.length → a ≠ b → lxl a b ∨ lxl b a
  | [], [], _, n => absurd rfl n
  | [], _ :: _, e, _ => by simp at e
  | _ :: _, [], e, _ => by simp at e
  | a :: x, b :: y, e, n => by
    rcases Nat.lt_trichotomy a b with h | h | h
    · exact Or.inl (Or.inl h)
    · subst h
      rcases lxl_total (a := x) (b := y) (by simpa using e) (fun z => n (by rw [z])) with h | h
      · exact Or.inl (Or.inr ⟨rfl, h⟩)
      · exact Or.inr (Or.inr ⟨rfl, h⟩)
    · exact Or.inr (Or.inl h)
theorem en_sorted : ∀ (n l : Nat), (en n l).Pairwise lxl
  | 0, l => by simp [en]
  | n + 1, l => by
    rw [en]
    have : ∀ (m v : Nat), ((List.range' v m).flatMap (fun v => (en n (l - v)).map (v :: ·))).Pairwise lxl := by
      intro m
      induction m with
      | zero => intro v; exact List.Pairwise.nil
      | succ m ih =>
        intro v
        rw [List.range'_succ, List.flatMap_cons]
        refine List.pairwise_append.mpr ⟨List.Pairwise.map _ (fun a b h => Or.inr ⟨rfl, h⟩) (en_sorted n (l - v)), ih (v + 1), fun a ha b hb => ?_⟩
        obtain ⟨x, _, rfl⟩ := List.mem_map.mp ha
        obtain ⟨w, hw, hb2⟩ := List.mem_flatMap.mp hb
        obtain ⟨y, _, rfl⟩ := List.mem_map.mp hb2
        have := (List.mem_range'_1.mp hw).1
        exact Or.inl (by omega)
    exact this _ _
section DI2
variable {R U S : Nat} {A : Nat → Nat → Int}
theorem sols_mem {x : List Nat} : x ∈ sols R U S A ↔ isMin R U S A x := by
  unfold sols
  rw [flt_mem]
  constructor
  · exact fun h => h.1
  · exact fun h => ⟨h, x, rfl, h.1.1, h.1.2.1⟩
theorem sols_sorted : (sols R U S A).Pairwise lxl := by
  unfold sols flt
  refine List.Pairwise.filter _ ?_
  show List.Pairwise lxl (List.map (fun x => x) (en U S))
  rw [List.map_id']
  exact en_sorted _ _
end DI2
