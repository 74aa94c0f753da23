/-! ===== joining: parts, insertion by ORDER, the sum or product of a few ===== -/
theorem kd_node (k a : Nat) (L : List Tm) : kd (node k a L) = k := rfl
theorem nm_node (k a : Nat) (L : List Tm) : nm (node k a L) = a := rfl
noncomputable def pts (x : Tm) : List Tm := by
  classical exact if h : ∃ L : List Tm, (∀ y ∈ L, wf y) ∧ x = node (kd x) (nm x) L then Classical.choose h else []
theorem pts_node {k a : Nat} {L : List Tm} (h : ∀ y ∈ L, wf y) : pts (node k a L) = L := by
  have hex : ∃ M : List Tm, (∀ y ∈ M, wf y) ∧ node k a L = node (kd (node k a L)) (nm (node k a L)) M := ⟨L, h, rfl⟩
  unfold pts
  rw [dif_pos hex]
  have := Classical.choose_spec hex
  exact (node_inj h this.1 this.2).2.2.symm
theorem Can_pts {x : Tm} (h : Can x) : x = node (kd x) (nm x) (pts x) ∧ loc (kd x) (nm x) (pts x) ∧ ∀ y ∈ pts x, Can y := by
  obtain ⟨k, a, L, rfl, h1, h2⟩ := Can_out h
  rw [kd_node, nm_node, pts_node fun y hy => Can_wf (h2 y hy)]
  exact ⟨rfl, h1, h2⟩
abbrev so (L : List Tm) : Prop := L.Pairwise (fun x y => ¬ tlt y x)
noncomputable def ins (y : Tm) : List Tm → List Tm
  | [] => [y]
  | z :: L => @ite _ (tlt y z) (Classical.propDecidable _) (y :: z :: L) (z :: ins y L)
theorem ins_perm (y : Tm) : ∀ L : List Tm, (ins y L).Perm (y :: L)
  | [] => List.Perm.refl _
  | z :: L => by
    unfold ins
    by_cases h : tlt y z
    · rw [if_pos h]
    · rw [if_neg h]
      exact ((ins_perm y L).cons z).trans (List.Perm.swap y z L)
theorem le_trans_t {x y z : Tm} (hx : wf x) (hy : wf y) (h : ¬ tlt y x) (g : ¬ tlt z y) : ¬ tlt z x := by
  intro c
  by_cases e : x = y
  · subst e; exact g c
  · rcases tlt_total hx hy e with h1 | h1
    · exact g (tlt_trans _ _ _ c h1)
    · exact h h1
theorem ins_so {y : Tm} (hy : wf y) : ∀ {L : List Tm}, (∀ z ∈ L, wf z) → so L → so (ins y L)
  | [], _, _ => by simp [ins]
  | z :: L, hw, h => by
    unfold ins
    have h1 := List.pairwise_cons.mp h
    by_cases c : tlt y z
    · rw [if_pos c]
      refine List.pairwise_cons.mpr ⟨fun w hw2 => ?_, h⟩
      rcases List.mem_cons.mp hw2 with e | hw2
      · rw [e]; exact tlt_asym c
      · exact le_trans_t hy (hw z List.mem_cons_self) (tlt_asym c) (h1.1 w hw2)
    · rw [if_neg c]
      refine List.pairwise_cons.mpr ⟨fun w hw2 => ?_, ins_so hy (fun w hw2 => hw w (List.mem_cons_of_mem _ hw2)) h1.2⟩
      rcases List.mem_cons.mp ((ins_perm y L).mem_iff.mp hw2) with e | hw2
      · rw [e]; exact c
      · exact h1.1 w hw2
theorem ins_at0 {y : Tm} : ∀ {L : List Tm} {j : Nat}, (∀ z ∈ L.take j, ¬ tlt y z) → (∀ z, L[j]? = some z → tlt y z) → ins y L = L.take j ++ y :: L.drop j
  | [], j, _, _ => by simp [ins]
  | z :: L, 0, _, h2 => by
    unfold ins
    rw [if_pos (h2 z rfl)]
    rfl
  | z :: L, j + 1, h1, h2 => by
    unfold ins
    rw [if_neg (h1 z (by simp))]
    rw [ins_at0 (j := j) (fun w hw => h1 w (by simp [hw])) (fun w hw => h2 w (by simpa using hw))]
    rfl
theorem ins_at {y : Tm} {L : List Tm} {j : Nat} (hy : wf y) (hw : ∀ z ∈ L, wf z) (hs : so L) (hj : j ≤ L.length) (h1 : ∀ z, L[j]? = some z → tlt y z) (h2 : j = 0 ∨ ∃ z, L[j - 1]? = some z ∧ ¬ tlt y z) : ins y L = L.take j ++ y :: L.drop j := by
  refine ins_at0 (fun z hz => ?_) h1
  obtain ⟨i, hi, e⟩ := List.getElem_of_mem hz
  have hi2 : i < j := by simp at hi; omega
  rcases h2 with h2 | ⟨w, w1, w2⟩
  · omega
  · have hi3 : i < L.length := by omega
    have e2 : L[i] = z := by rw [← e]; simp
    have hj1 : j - 1 < L.length := by omega
    rw [List.getElem?_eq_getElem hj1] at w1
    cases w1
    by_cases ei : i = j - 1
    · subst ei; rw [← e2]; exact w2
    · have := so_lt hs (i := i) (j := j - 1) (by omega) hj1
      rw [e2] at this
      exact le_trans_t (hw z (by rw [← e2]; exact List.getElem_mem hi3)) (hw _ (List.getElem_mem hj1)) this w2
noncomputable def srt (L : List Tm) : List Tm := L.foldl (fun acc y => ins y acc) []
theorem srt_snoc (L : List Tm) (y : Tm) : srt (L ++ [y]) = ins y (srt L) := by
  unfold srt
  rw [List.foldl_append]
  rfl
theorem foldl_perm : ∀ (L acc : List Tm), (L.foldl (fun acc y => ins y acc) acc).Perm (L ++ acc)
  | [], acc => List.Perm.refl _
  | y :: L, acc => by
    rw [List.foldl_cons]
    refine (foldl_perm L (ins y acc)).trans ?_
    refine ((List.Perm.append_left L (ins_perm y acc))).trans ?_
    exact List.perm_middle
theorem srt_perm (L : List Tm) : (srt L).Perm L := by
  have := foldl_perm L []
  rw [List.append_nil] at this
  exact this
theorem srt_len (L : List Tm) : (srt L).length = L.length := (srt_perm L).length_eq
theorem srt_mem {L : List Tm} {y : Tm} : y ∈ srt L ↔ y ∈ L := (srt_perm L).mem_iff
theorem foldl_so : ∀ (L acc : List Tm), (∀ y ∈ L, wf y) → (∀ y ∈ acc, wf y) → so acc → so (L.foldl (fun acc y => ins y acc) acc)
  | [], acc, _, _, h => h
  | y :: L, acc, h1, h2, h => by
    rw [List.foldl_cons]
    refine foldl_so L _ (fun z hz => h1 z (List.mem_cons_of_mem _ hz)) (fun z hz => ?_) (ins_so (h1 y List.mem_cons_self) h2 h)
    rcases List.mem_cons.mp ((ins_perm y acc).mem_iff.mp hz) with e | hz
    · rw [e]; exact h1 y List.mem_cons_self
    · exact h2 z hz
theorem srt_so {L : List Tm} (h : ∀ y ∈ L, wf y) : so (srt L) := foldl_so L [] h (by simp) List.Pairwise.nil
theorem ins_end {y : Tm} : ∀ {L : List Tm}, (∀ z ∈ L, ¬ tlt y z) → ins y L = L ++ [y]
  | [], _ => rfl
  | z :: L, h => by
    unfold ins
    rw [if_neg (h z List.mem_cons_self), ins_end fun w hw => h w (List.mem_cons_of_mem _ hw)]
    rfl
theorem foldl_self : ∀ (L acc : List Tm), so (acc ++ L) → L.foldl (fun acc y => ins y acc) acc = acc ++ L
  | [], acc, _ => by simp
  | y :: L, acc, h => by
    rw [List.foldl_cons, ins_end (fun z hz => (List.pairwise_append.mp h).2.2 z hz y List.mem_cons_self), foldl_self L (acc ++ [y]) (by rw [List.append_assoc]; exact h), List.append_assoc]
    rfl
theorem srt_self {L : List Tm} (h : so L) : srt L = L := by
  have := foldl_self L [] (by simpa using h)
  simpa [srt] using this
theorem perm_flen {L M : List Tm} (h : L.Perm M) : L.flatten.length = M.flatten.length := h.flatten.length_eq
/-! what a sum or product takes apart -/
noncomputable def fl1 (k : Nat) (x : Tm) : List Tm := if kd x = k then pts x else [x]
noncomputable def flK (k : Nat) (xs : List Tm) : List Tm := xs.flatMap (fl1 k)
noncomputable def joinL (k : Nat) (l : List Tm) : Tm := match l with
  | [y] => y
  | l => node k 0 (srt l)
noncomputable def joinT (k : Nat) (xs : List Tm) : Tm := joinL k (flK k xs)
theorem joinL_2 {k : Nat} {l : List Tm} (h : 2 ≤ l.length) : joinL k l = node k 0 (srt l) := by
  match l, h with
  | _ :: _ :: _, _ => rfl
theorem joinL_0 (k : Nat) : joinL k [] = node k 0 [] := rfl
theorem flK_app (k : Nat) (xs ys : List Tm) : flK k (xs ++ ys) = flK k xs ++ flK k ys := List.flatMap_append
theorem flK_one (k : Nat) (x : Tm) : flK k [x] = fl1 k x := by simp [flK]
theorem fl1_ne {k : Nat} {x : Tm} (h : kd x ≠ k) : fl1 k x = [x] := if_neg h
theorem fl1_eq {k : Nat} {x : Tm} (h : kd x = k) : fl1 k x = pts x := if_pos h
theorem fl1_pos {k : Nat} {x : Tm} (hk : k = 3 ∨ k = 4) (hc : Can x) : 1 ≤ (fl1 k x).length ∧ (kd x = k → 2 ≤ (fl1 k x).length) := by
  by_cases h : kd x = k
  · rw [fl1_eq h]
    obtain ⟨_, h2, _⟩ := Can_pts hc
    rw [h] at h2
    rcases h2 with h2 | h2 | h2 | h2
    · omega
    · omega
    · omega
    · exact ⟨by omega, fun _ => h2.2.2.1⟩
  · rw [fl1_ne h]
    exact ⟨Nat.le_refl _, fun z => absurd z h⟩
theorem flK_mem {k : Nat} {xs : List Tm} {y : Tm} : y ∈ flK k xs ↔ ∃ x ∈ xs, y ∈ fl1 k x := List.mem_flatMap
theorem flK_can {k : Nat} (hk : k = 3 ∨ k = 4) {xs : List Tm} (h : ∀ x ∈ xs, Can x) : ∀ y ∈ flK k xs, Can y ∧ kd y ≠ k := by
  intro y hy
  obtain ⟨x, hx, hy⟩ := flK_mem.mp hy
  by_cases e : kd x = k
  · rw [fl1_eq e] at hy
    obtain ⟨_, h2, h3⟩ := Can_pts (h x hx)
    refine ⟨h3 y hy, ?_⟩
    rw [e] at h2
    rcases h2 with h2 | h2 | h2 | h2
    · omega
    · omega
    · omega
    · exact h2.2.2.2.2 y hy
  · rw [fl1_ne e] at hy
    rw [List.mem_singleton.mp hy]
    exact ⟨h x hx, e⟩
theorem flK_len {k : Nat} (hk : k = 3 ∨ k = 4) : ∀ {xs : List Tm}, (∀ x ∈ xs, Can x) → xs.length ≤ (flK k xs).length
  | [], _ => Nat.le_refl _
  | x :: xs, h => by
    have h1 := (fl1_pos hk (h x List.mem_cons_self)).1
    have h2 := flK_len hk fun y hy => h y (List.mem_cons_of_mem _ hy)
    have e : flK k (x :: xs) = fl1 k x ++ flK k xs := List.flatMap_cons
    rw [e, List.length_append, List.length_cons]
    omega
theorem Can_join {k : Nat} (hk : k = 3 ∨ k = 4) {xs : List Tm} (h : ∀ x ∈ xs, Can x) (hn : xs ≠ []) : Can (joinT k xs) := by
  have h1 := flK_can hk h
  have h2 := flK_len hk h
  have h3 : 1 ≤ xs.length := List.length_pos_iff.mpr hn
  unfold joinT
  match hl : flK k xs with
  | [] => exact absurd (by rw [hl] at h2; simpa using h2 : xs = []) hn
  | [y] => exact (h1 y (by rw [hl]; simp)).1
  | a :: b :: l =>
    rw [← hl, joinL_2 (by rw [hl]; simp)]
    refine Can_mk (Or.inr (Or.inr (Or.inr ⟨hk, rfl, ?_, srt_so fun y hy => Can_wf (h1 y hy).1, fun y hy => (h1 y (srt_mem.mp hy)).2⟩))) fun y hy => (h1 y (srt_mem.mp hy)).1
    rw [srt_len, hl]
    simp
theorem joinT_one {k : Nat} (hk : k = 3 ∨ k = 4) {x : Tm} (h : Can x) : joinT k [x] = x := by
  unfold joinT
  rw [flK_one]
  by_cases e : kd x = k
  · have h2 := (fl1_pos hk h).2 e
    rw [joinL_2 h2, fl1_eq e]
    obtain ⟨h3, h4, h5⟩ := Can_pts h
    rw [e] at h3 h4
    rcases h4 with h4 | h4 | h4 | h4
    · omega
    · omega
    · omega
    · rw [srt_self h4.2.2.2.1]
      rw [h4.2.1] at h3
      exact h3.symm
  · rw [fl1_ne e]
    rfl
theorem joinT_two {k : Nat} (hk : k = 3 ∨ k = 4) {xs : List Tm} (h : ∀ x ∈ xs, Can x) (hn : 2 ≤ xs.length) : joinT k xs = node k 0 (srt (flK k xs)) := joinL_2 (Nat.le_trans hn (flK_len hk h))
/-! what fits -/
theorem fits_node {k a : Nat} {L : List Tm} : fits (node k a L) ↔ L.length ≤ 8 ∧ 1 + L.flatten.length ≤ 40 ∧ ∀ y ∈ L, ∀ h ∈ y, h.2.2 ≤ 8 := by
  unfold fits
  rw [node_len]
  constructor
  · intro ⟨h1, h2⟩
    exact ⟨h2 (k, a, L.length) (by simp [node]), h1, fun y hy h hh => h2 h (by simp only [node, List.mem_cons, List.mem_flatten]; exact Or.inr ⟨y, hy, hh⟩)⟩
  · intro ⟨h1, h2, h3⟩
    refine ⟨h2, fun h hh => ?_⟩
    simp only [node, List.mem_cons, List.mem_flatten] at hh
    rcases hh with e | ⟨y, hy, hh⟩
    · rw [e]; exact h1
    · exact h3 y hy h hh
theorem fits_part {k a : Nat} {L : List Tm} (h : fits (node k a L)) : ∀ y ∈ L, fits y := by
  intro y hy
  obtain ⟨_, h2, h3⟩ := fits_node.mp h
  have := mem_flat_len hy
  exact ⟨by omega, h3 y hy⟩
theorem fits_of {k a : Nat} {L : List Tm} (h1 : L.length ≤ 8) (h2 : (node k a L).length ≤ 40) (h3 : ∀ y ∈ L, fits y) : fits (node k a L) := by
  rw [node_len] at h2
  exact fits_node.mpr ⟨h1, h2, fun y hy => (h3 y hy).2⟩
theorem flK_flen {k : Nat} {xs : List Tm} (h : ∀ x ∈ xs, Can x) : ∀ {x : Tm}, x ∈ xs → x.length ≤ (flK k xs).flatten.length + 1 := by
  intro x hx
  obtain ⟨s, t, e⟩ := List.append_of_mem hx
  rw [e, flK_app, show flK k (x :: t) = fl1 k x ++ flK k t from List.flatMap_cons, List.flatten_append, List.flatten_append, List.length_append, List.length_append]
  by_cases e2 : kd x = k
  · rw [fl1_eq e2]
    have := (Can_pts (h x hx)).1
    have h2 : x.length = 1 + (pts x).flatten.length := by
      have h3 := congrArg List.length this
      rw [node_len] at h3
      exact h3
    omega
  · rw [fl1_ne e2]
    simp
    omega
theorem fits_join {k : Nat} (hk : k = 3 ∨ k = 4) {xs : List Tm} (h : ∀ x ∈ xs, Can x) (hf : fits (joinT k xs)) : ∀ x ∈ xs, fits x := by
  intro x hx
  rcases Nat.lt_or_ge xs.length 2 with hl | hl
  · have : xs = [x] := by
      match xs, hl, hx with
      | [y], _, hx => rw [List.mem_singleton.mp hx]
    rw [this, joinT_one hk (h x hx)] at hf
    exact hf
  · rw [joinT_two hk h hl] at hf
    obtain ⟨h1, h2, h3⟩ := fits_node.mp hf
    have h4 := flK_flen (k := k) h hx
    rw [perm_flen (srt_perm _)] at h2
    rw [srt_len] at h1
    refine ⟨by omega, fun n hn => ?_⟩
    by_cases e : kd x = k
    · have hp := (Can_pts (h x hx)).1
      rw [hp] at hn
      simp only [node, List.mem_cons, List.mem_flatten] at hn
      rcases hn with e2 | ⟨y, hy, hh⟩
      · rw [e2]
        show (pts x).length ≤ 8
        obtain ⟨s, t, e3⟩ := List.append_of_mem hx
        rw [e3, flK_app, show flK k (x :: t) = fl1 k x ++ flK k t from List.flatMap_cons, fl1_eq e] at h1
        simp at h1
        omega
      · exact h3 y (srt_mem.mpr (flK_mem.mpr ⟨x, hx, by rw [fl1_eq e]; exact hy⟩)) n hh
    · exact h3 x (srt_mem.mpr (flK_mem.mpr ⟨x, hx, by rw [fl1_ne e]; simp⟩)) n hn
