/-! ===== unknowns: terms of both sides, each once, by ORDER ===== -/
noncomputable def tIns (y : Tm) : List Tm → List Tm
  | [] => [y]
  | z :: L => @ite _ (tlt y z) (Classical.propDecidable _) (y :: z :: L) (@ite _ (y = z) (Classical.propDecidable _) (z :: L) (z :: tIns y L))
theorem tIns_mem {y w : Tm} : ∀ {L : List Tm}, w ∈ tIns y L ↔ w = y ∨ w ∈ L
  | [] => by simp [tIns]
  | z :: L => by
    unfold tIns
    by_cases h : tlt y z
    · rw [if_pos h]; simp
    · rw [if_neg h]
      by_cases e : y = z
      · rw [if_pos e, e]; simp
      · rw [if_neg e, List.mem_cons, tIns_mem, List.mem_cons]
        constructor
        · rintro (h | h | h)
          · exact Or.inr (Or.inl h)
          · exact Or.inl h
          · exact Or.inr (Or.inr h)
        · rintro (h | h | h)
          · exact Or.inr (Or.inl h)
          · exact Or.inl h
          · exact Or.inr (Or.inr h)
abbrev ss (L : List Tm) : Prop := L.Pairwise tlt
theorem tIns_ss {y : Tm} (hy : wf y) : ∀ {L : List Tm}, (∀ z ∈ L, wf z) → ss L → ss (tIns y L)
  | [], _, _ => by simp [tIns]
  | z :: L, hw, h => by
    have h1 := List.pairwise_cons.mp h
    unfold tIns
    by_cases c : tlt y z
    · rw [if_pos c]
      refine List.pairwise_cons.mpr ⟨fun w hw2 => ?_, h⟩
      rcases List.mem_cons.mp hw2 with e | hw2
      · rw [e]; exact c
      · exact tlt_trans _ _ _ c (h1.1 w hw2)
    · rw [if_neg c]
      by_cases e : y = z
      · rw [if_pos e]; exact h
      · rw [if_neg e]
        refine List.pairwise_cons.mpr ⟨fun w hw2 => ?_, tIns_ss hy (fun w hw2 => hw w (List.mem_cons_of_mem _ hw2)) h1.2⟩
        rcases tIns_mem.mp hw2 with e2 | hw2
        · rw [e2]
          rcases tlt_total hy (hw z List.mem_cons_self) e with q | q
          · exact absurd q c
          · exact q
        · exact h1.1 w hw2
/-- it is there -/
theorem tIns_old {y : Tm} : ∀ {L : List Tm}, ss L → y ∈ L → tIns y L = L
  | [], _, h => by simp at h
  | z :: L, h, hm => by
    have h1 := List.pairwise_cons.mp h
    unfold tIns
    rcases List.mem_cons.mp hm with e | hm
    · subst e
      rw [if_neg (tlt_irr _), if_pos rfl]
    · have := h1.1 y hm
      rw [if_neg (tlt_asym this), if_neg (fun e => by rw [e] at this; exact tlt_irr _ this), tIns_old h1.2 hm]
/-- it is new: where it comes -/
theorem tIns_new {y : Tm} : ∀ {L : List Tm} {j : Nat}, (∀ z ∈ L.take j, tlt z y) → (∀ z, L[j]? = some z → tlt y z) → tIns y L = L.take j ++ y :: L.drop j
  | [], j, _, _ => by simp [tIns]
  | z :: L, 0, _, h2 => by
    unfold tIns
    rw [if_pos (h2 z rfl)]
    rfl
  | z :: L, j + 1, h1, h2 => by
    have h3 := h1 z (by simp)
    unfold tIns
    rw [if_neg (tlt_asym h3), if_neg (fun e => by rw [e] at h3; exact tlt_irr _ h3), tIns_new (j := j) (fun w hw => h1 w (by simp [hw])) (fun w hw => h2 w (by simpa using hw))]
    rfl
theorem tIns_len {y : Tm} : ∀ {L : List Tm}, (tIns y L).length ≤ L.length + 1
  | [] => by simp [tIns]
  | z :: L => by
    have := tIns_len (y := y) (L := L)
    unfold tIns
    by_cases h : tlt y z
    · rw [if_pos h]; simp
    · rw [if_neg h]
      by_cases e : y = z
      · rw [if_pos e]; simp
      · rw [if_neg e]; simp; omega
noncomputable def tAll (P : List Tm) : List Tm := P.foldl (fun L z => tIns z L) []
theorem tAll_snoc (P : List Tm) (y : Tm) : tAll (P ++ [y]) = tIns y (tAll P) := by
  unfold tAll
  rw [List.foldl_append]
  rfl
theorem tFold_mem {w : Tm} : ∀ (P L : List Tm), w ∈ P.foldl (fun L z => tIns z L) L ↔ w ∈ P ∨ w ∈ L
  | [], L => by simp
  | y :: P, L => by
    rw [List.foldl_cons, tFold_mem P, tIns_mem, List.mem_cons]
    constructor
    · rintro (h | h | h)
      · exact Or.inl (Or.inr h)
      · exact Or.inl (Or.inl h)
      · exact Or.inr h
    · rintro ((h | h) | h)
      · exact Or.inr (Or.inl h)
      · exact Or.inl h
      · exact Or.inr (Or.inr h)
theorem tAll_mem {P : List Tm} {w : Tm} : w ∈ tAll P ↔ w ∈ P := by
  unfold tAll
  rw [tFold_mem]
  simp
theorem tFold_ss : ∀ (P L : List Tm), (∀ z ∈ P, wf z) → (∀ z ∈ L, wf z) → ss L → ss (P.foldl (fun L z => tIns z L) L)
  | [], L, _, _, h => h
  | y :: P, L, h1, h2, h => by
    rw [List.foldl_cons]
    refine tFold_ss P _ (fun z hz => h1 z (List.mem_cons_of_mem _ hz)) (fun z hz => ?_) (tIns_ss (h1 y List.mem_cons_self) h2 h)
    rcases tIns_mem.mp hz with e | hz
    · rw [e]; exact h1 y List.mem_cons_self
    · exact h2 z hz
theorem tAll_ss {P : List Tm} (h : ∀ z ∈ P, wf z) : ss (tAll P) := tFold_ss P [] h (by simp) List.Pairwise.nil
theorem tFold_len : ∀ (P L : List Tm), (P.foldl (fun L z => tIns z L) L).length ≤ L.length + P.length
  | [], L => by simp
  | y :: P, L => by
    have := tFold_len P (tIns y L)
    have := tIns_len (y := y) (L := L)
    rw [List.foldl_cons, List.length_cons]
    omega
theorem tAll_len (P : List Tm) : (tAll P).length ≤ P.length := by
  have := tFold_len P []
  simpa [tAll] using this
/-! how often, with a sign -/
noncomputable def net (z : Tm) : List (Tm × Int) → Int
  | [] => 0
  | q :: r => (if dc (q.1 = z) then q.2 else 0) + net z r
theorem net_snoc (z : Tm) (P : List (Tm × Int)) (y : Tm) (b : Int) : net z (P ++ [(y, b)]) = net z P + (if dc (y = z) then b else 0) := by
  induction P with
  | nil => simp [net]
  | cons q P ih =>
    simp only [List.cons_append, net, ih]
    omega
theorem net_not {z : Tm} {P : List (Tm × Int)} (h : z ∉ P.map (·.1)) : net z P = 0 := by
  induction P with
  | nil => rfl
  | cons q P ih =>
    rw [List.map_cons, List.mem_cons] at h
    simp only [net]
    rw [dc_f (fun e => h (Or.inl e.symm)), ih (fun z => h (Or.inr z))]
    rfl
theorem net_bd {z : Tm} {P : List (Tm × Int)} (h : ∀ q ∈ P, -1 ≤ q.2 ∧ q.2 ≤ 1) : -(P.length : Int) ≤ net z P ∧ net z P ≤ P.length := by
  induction P with
  | nil => simp [net]
  | cons q P ih =>
    have h1 := h q List.mem_cons_self
    have h2 := ih fun r hr => h r (List.mem_cons_of_mem _ hr)
    simp only [net, List.length_cons]
    split <;> omega
/-! the class: tally -/
/-- the class's unknowns: these terms, with these numbers -/
def uk (σ : am_S) (P : List (Tm × Int)) : Prop := gS σ 35 7 = nI (tAll (P.map (·.1))).length ∧ (∀ i z, (tAll (P.map (·.1)))[i]? = some z → (∃ t, gP σ 43 i = some t ∧ Rp σ t z) ∧ (gA σ 44 i).toInt = net z P)
section TA
variable {σ τ : am_S}
theorem x_tallyPart {t d : Nat} {y : Tm} {P : List (Tm × Int)} {by1 : Int32} {b : Int} {Q : Unit → am_S → Prop} (hb : by1.toInt = b) (hb1 : -1 ≤ b ∧ b ≤ 1) (hP : ∀ q ∈ P, (-1 ≤ q.2 ∧ q.2 ≤ 1) ∧ Can q.1 ∧ fits q.1) (hl : P.length < 16) (hy : Can y) (hf : fits y) (ht : Rp σ t y) (hu : uk σ P) (H : ∀ τ, gw [(35, 7)] [44] [] [43] 0 0 σ τ → uk τ (P ++ [(y, b)]) → Q () τ) : am_K ru am_Lx IX9_tallyPart (d + 42) [.ref 35, .ref t, .int by1] σ Q := by
  obtain ⟨u1, u2⟩ := hu
  have hPw : ∀ z ∈ P.map (·.1), Can z ∧ fits z := fun z hz => by
    obtain ⟨q, hq, e⟩ := List.mem_map.mp hz
    rw [← e]
    exact (hP q hq).2
  generalize hL : tAll (P.map (·.1)) = L at u1 u2
  have hLm : ∀ z ∈ L, Can z ∧ fits z := fun z hz => hPw z (tAll_mem.mp (by rw [hL]; exact hz))
  have hLs : ss L := by rw [← hL]; exact tAll_ss fun z hz => Can_wf (hPw z hz).1
  have hLl : L.length < 16 := by
    have := tAll_len (P.map (·.1))
    rw [hL] at this
    simp at this
    omega
  have hyw := Can_wf hy
  have hy40 := hf.1
  have hT := Rp_T ht
  have hmap : (P ++ [(y, b)]).map (·.1) = P.map (·.1) ++ [y] := by simp
  have eAll : tAll ((P ++ [(y, b)]).map (·.1)) = tIns y L := by rw [hmap, tAll_snoc, hL]
  -- the place is found
  have at' : ∀ j, j ≤ L.length → (∀ z ∈ L.take j, tlt z y) → (∀ z, L[j]? = some z → ¬ tlt z y) → am_X ru am_Lx IX9_tallyPart (d + 42) 30 [some (.ref 35), some (.ref t), some (.int by1), some (.int (nI j)), none] [] σ Q := by
    intro j hj h1 h2
    -- it is new
    have new : (∀ z, L[j]? = some z → tlt y z) → am_X ru am_Lx IX9_tallyPart (d + 42) 79 [some (.ref 35), some (.ref t), some (.int by1), some (.int (nI j)), some (.int (nI L.length))] [] σ Q := by
      intro h3
      have hins := tIns_new h1 h3
      have hnot : y ∉ P.map (·.1) := fun hin => by
        have hyL : y ∈ L := by rw [← hL]; exact tAll_mem.mpr hin
        rw [← List.take_append_drop j L] at hyL
        rcases List.mem_append.mp hyL with q | q
        · exact tlt_irr _ (h1 y q)
        · obtain ⟨i, hi, e⟩ := List.getElem_of_mem q
          have hi2 : j + i < L.length := by simp at hi; omega
          have e2 : L[j + i] = y := by rw [← e]; simp
          have h4 := h3 L[j] (List.getElem?_eq_getElem (by omega))
          rcases Nat.eq_zero_or_pos i with q0 | q0
          · subst q0
            simp at e2
            rw [e2] at h4
            exact tlt_irr _ h4
          · have := so_lt hLs (i := j) (j := j + i) (by omega) hi2
            rw [e2] at this
            exact tlt_asym h4 this
      have loop : ∀ m τ, j ≤ m → m ≤ L.length → gw [(35, 7)] [44] [] [43] 0 0 σ τ → gS τ 35 7 = nI L.length → (∀ i z, i < m → L[i]? = some z → (∃ u, gP τ 43 i = some u ∧ Rp σ u z) ∧ (gA τ 44 i).toInt = net z P) → (∀ i z, m ≤ i → L[i]? = some z → (∃ u, gP τ 43 (i + 1) = some u ∧ Rp σ u z) ∧ (gA τ 44 (i + 1)).toInt = net z P) → am_X ru am_Lx IX9_tallyPart (d + 42) 79 [some (.ref 35), some (.ref t), some (.int by1), some (.int (nI j)), some (.int (nI m))] [] τ Q := by
        intro m
        induction m with
        | zero =>
          intro τ hjm hm g1 g2 g3 g4
          have hj0 : j = 0 := by omega
          subst hj0
          exact jz 0 τ (Nat.le_refl _) (Nat.zero_le _) g1 g2 g3 g4
        | succ m ih =>
          sorry
      sorry
    sorry
  sorry
end TA
