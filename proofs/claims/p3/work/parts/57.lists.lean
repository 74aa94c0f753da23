/-! ===== lists without doubles, lists in order ===== -/
section LI
variable {α : Type}
theorem nd_le : ∀ {g l : List α}, g.Nodup → (∀ x ∈ g, x ∈ l) → g.length ≤ l.length
  | [], l, _, _ => Nat.zero_le _
  | a :: g, l, hn, hs => by
    obtain ⟨s, t, e⟩ := List.append_of_mem (hs a List.mem_cons_self)
    have hn2 := List.nodup_cons.mp hn
    have := nd_le (g := g) (l := s ++ t) hn2.2 fun x hx => by
      have h1 := hs x (List.mem_cons_of_mem _ hx)
      rw [e] at h1
      rcases List.mem_append.mp h1 with h | h
      · exact List.mem_append_left _ h
      · rcases List.mem_cons.mp h with h | h
        · subst h; exact absurd hx hn2.1
        · exact List.mem_append_right _ h
    rw [e]
    simp at this ⊢
    omega
theorem nd_all {g l : List α} (hn : g.Nodup) (hs : ∀ x ∈ g, x ∈ l) (hl : l.length ≤ g.length) : ∀ x ∈ l, x ∈ g := by
  intro x hx
  refine Classical.byContradiction fun hc => ?_
  have := nd_le (g := x :: g) (l := l) (List.nodup_cons.mpr ⟨hc, hn⟩) fun y hy => by
    rcases List.mem_cons.mp hy with h | h
    · rw [h]; exact hx
    · exact hs y h
  simp at this
  omega
theorem nd_pair {r : α → α → Prop} (hi : ∀ a, ¬ r a a) {l : List α} (h : l.Pairwise r) : l.Nodup := by
  refine List.Pairwise.imp ?_ h
  intro a b hab e
  subst e
  exact hi a hab
/-- two lists in strict order that have the same are the same -/
theorem so_eq {r : α → α → Prop} (hi : ∀ a, ¬ r a a) (ht : ∀ a b c, r a b → r b c → r a c) : ∀ {g l : List α}, g.Pairwise r → l.Pairwise r → (∀ x ∈ g, x ∈ l) → (∀ x ∈ l, x ∈ g) → g = l
  | [], [], _, _, _, _ => rfl
  | [], b :: l, _, _, _, h => absurd (h b List.mem_cons_self) (by simp)
  | a :: g, [], _, _, h, _ => absurd (h a List.mem_cons_self) (by simp)
  | a :: g, b :: l, hg, hl, h1, h2 => by
    have g1 := List.pairwise_cons.mp hg
    have l1 := List.pairwise_cons.mp hl
    have e : a = b := by
      rcases List.mem_cons.mp (h1 a List.mem_cons_self) with h | h
      · exact h
      · rcases List.mem_cons.mp (h2 b List.mem_cons_self) with k | k
        · exact k.symm
        · exact absurd (ht _ _ _ (l1.1 a h) (g1.1 b k)) (hi b)
    subst e
    congr 1
    refine so_eq hi ht g1.2 l1.2 (fun x hx => ?_) (fun x hx => ?_)
    · rcases List.mem_cons.mp (h1 x (List.mem_cons_of_mem _ hx)) with h | h
      · subst h; exact absurd (g1.1 x hx) (hi x)
      · exact h
    · rcases List.mem_cons.mp (h2 x (List.mem_cons_of_mem _ hx)) with h | h
      · subst h; exact absurd (l1.1 x hx) (hi x)
      · exact h
theorem so_len {r : α → α → Prop} (hi : ∀ a, ¬ r a a) (ht : ∀ a b c, r a b → r b c → r a c) {g l : List α} (hg : g.Pairwise r) (hl : l.Pairwise r) (hs : ∀ x ∈ g, x ∈ l) (hn : l.length ≤ g.length) : g = l := so_eq hi ht hg hl hs (nd_all (nd_pair hi hg) hs hn)
/-- one more into a list in order -/
theorem so_ins {r : α → α → Prop} (ht : ∀ a b c, r a b → r b c → r a c) {k : List α} {x : α} {j : Nat} (hk : k.Pairwise r) (h1 : ∀ a ∈ k.take j, r a x) (h2 : ∀ a ∈ k.drop j, r x a) : (k.take j ++ x :: k.drop j).Pairwise r := by
  have h := hk
  rw [← List.take_append_drop j k] at h
  have h3 := List.pairwise_append.mp h
  refine List.pairwise_append.mpr ⟨h3.1, List.pairwise_cons.mpr ⟨h2, h3.2.1⟩, fun a ha b hb => ?_⟩
  rcases List.mem_cons.mp hb with e | hb
  · rw [e]; exact h1 a ha
  · exact h3.2.2 a ha b hb
theorem so_lt {r : α → α → Prop} {k : List α} (h : k.Pairwise r) {i j : Nat} (hij : i < j) (hj : j < k.length) : r (k[i]'(by omega)) k[j] := List.pairwise_iff_getElem.mp h i j (by omega) hj hij
theorem ins_get {k : List α} {x : α} {j p : Nat} (hj : j ≤ k.length) (hp : p < k.length + 1) : (k.take j ++ x :: k.drop j)[p]? = if p < j then k[p]? else if p = j then some x else k[p - 1]? := by
  by_cases h : p < j
  · rw [if_pos h, List.getElem?_append_left (by simp; omega), List.getElem?_take_of_lt h]
  · rw [if_neg h, List.getElem?_append_right (by simp; omega)]
    have e : (k.take j).length = j := by simp; omega
    rw [e]
    by_cases h2 : p = j
    · subst h2
      simp
    · rw [if_neg h2, show p - j = (p - j - 1) + 1 by omega, List.getElem?_cons_succ, List.getElem?_drop, show j + (p - j - 1) = p - 1 by omega]
theorem ins_len {k : List α} {x : α} {j : Nat} (hj : j ≤ k.length) : (k.take j ++ x :: k.drop j).length = k.length + 1 := by
  simp
  omega
theorem ins_mem {k : List α} {x y : α} {j : Nat} : y ∈ k.take j ++ x :: k.drop j ↔ y = x ∨ y ∈ k := by
  rw [List.mem_append, List.mem_cons]
  constructor
  · rintro (h | h | h)
    · exact Or.inr (List.mem_of_mem_take h)
    · exact Or.inl h
    · exact Or.inr (List.mem_of_mem_drop h)
  · rintro (h | h)
    · exact Or.inr (Or.inl h)
    · rw [← List.take_append_drop j k] at h
      rcases List.mem_append.mp h with h | h
      · exact Or.inl h
      · exact Or.inr (Or.inr h)
end LI
