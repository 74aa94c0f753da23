/-! ===== unknowns: terms of both sides, each once, by ORDER ===== -/
noncomputable def tIns (y : Tm) : List Tm → List Tm
  | [] => [y]
  | z :: L => @ite _ (tlt y z) (Classical.propDecidable _) (y :: z :: L) (@ite _ (y = z) (Classical.propDecidable _) (z :: L) (z :: tIns y L))
theorem tIns_mem {y w : Tm} : ∀ {L : List Tm}, w ∈ tIns y L ↔ w = y ∨ w ∈ L
  | [] => by simp [tIns]
  | z :: L => by
    unfold tIns
    by_cases h : tlt y z
    · rw [if_pos h]; simp
    · rw [if_neg h]
      by_cases e : y = z
      · rw [if_pos e, e]; simp
      · rw [if_neg e, List.mem_cons, tIns_mem, List.mem_cons]
        constructor
        · rintro (h | h | h)
          · exact Or.inr (Or.inl h)
          · exact Or.inl h
          · exact Or.inr (Or.inr h)
        · rintro (h | h | h)
          · exact Or.inr (Or.inl h)
          · exact Or.inl h
          · exact Or.inr (Or.inr h)
abbrev ss (L : List Tm) : Prop := L.Pairwise tlt
theorem tIns_ss {y : Tm} (hy : wf y) : ∀ {L : List Tm}, (∀ z ∈ L, wf z) → ss L → ss (tIns y L)
  | [], _, _ => by simp [tIns]
  | z :: L, hw, h => by
    have h1 := List.pairwise_cons.mp h
    unfold tIns
    by_cases c : tlt y z
    · rw [if_pos c]
      refine List.pairwise_cons.mpr ⟨fun w hw2 => ?_, h⟩
      rcases List.mem_cons.mp hw2 with e | hw2
      · rw [e]; exact c
      · exact tlt_trans _ _ _ c (h1.1 w hw2)
    · rw [if_neg c]
      by_cases e : y = z
      · rw [if_pos e]; exact h
      · rw [if_neg e]
        refine List.pairwise_cons.mpr ⟨fun w hw2 => ?_, tIns_ss hy (fun w hw2 => hw w (List.mem_cons_of_mem _ hw2)) h1.2⟩
        rcases tIns_mem.mp hw2 with e2 | hw2
        · rw [e2]
          rcases tlt_total hy (hw z List.mem_cons_self) e with q | q
          · exact absurd q c
          · exact q
        · exact h1.1 w hw2
/-- it is there -/
theorem tIns_old {y : Tm} : ∀ {L : List Tm}, ss L → y ∈ L → tIns y L = L
  | [], _, h => by simp at h
  | z :: L, h, hm => by
    have h1 := List.pairwise_cons.mp h
    unfold tIns
    rcases List.mem_cons.mp hm with e | hm
    · subst e
      rw [if_neg (tlt_irr _), if_pos rfl]
    · have := h1.1 y hm
      rw [if_neg (tlt_asym this), if_neg (fun e => by rw [e] at this; exact tlt_irr _ this), tIns_old h1.2 hm]
/-- it is new: where it comes -/
theorem tIns_new {y : Tm} : ∀ {L : List Tm} {j : Nat}, (∀ z ∈ L.take j, tlt z y) → (∀ z, L[j]? = some z → tlt y z) → tIns y L = L.take j ++ y :: L.drop j
  | [], j, _, _ => by simp [tIns]
  | z :: L, 0, _, h2 => by
    unfold tIns
    rw [if_pos (h2 z rfl)]
    rfl
  | z :: L, j + 1, h1, h2 => by
    have h3 := h1 z (by simp)
    unfold tIns
    rw [if_neg (tlt_asym h3), if_neg (fun e => by rw [e] at h3; exact tlt_irr _ h3), tIns_new (j := j) (fun w hw => h1 w (by simp [hw])) (fun w hw => h2 w (by simpa using hw))]
    rfl
theorem tIns_len {y : Tm} : ∀ {L : List Tm}, (tIns y L).length ≤ L.length + 1
  | [] => by simp [tIns]
  | z :: L => by
    have := tIns_len (y := y) (L := L)
    unfold tIns
    by_cases h : tlt y z
    · rw [if_pos h]; simp
    · rw [if_neg h]
      by_cases e : y = z
      · rw [if_pos e]; simp
      · rw [if_neg e]; simp; omega
noncomputable def tAll (P : List Tm) : List Tm := P.foldl (fun L z => tIns z L) []
theorem tAll_snoc (P : List Tm) (y : Tm) : tAll (P ++ [y]) = tIns y (tAll P) := by
  unfold tAll
  rw [List.foldl_append]
  rfl
theorem tFold_mem {w : Tm} : ∀ (P L : List Tm), w ∈ P.foldl (fun L z => tIns z L) L ↔ w ∈ P ∨ w ∈ L
  | [], L => by simp
  | y :: P, L => by
    rw [List.foldl_cons, tFold_mem P, tIns_mem, List.mem_cons]
    constructor
    · rintro (h | h | h)
      · exact Or.inl (Or.inr h)
      · exact Or.inl (Or.inl h)
      · exact Or.inr h
    · rintro ((h | h) | h)
      · exact Or.inr (Or.inl h)
      · exact Or.inl h
      · exact Or.inr (Or.inr h)
theorem tAll_mem {P : List Tm} {w : Tm} : w ∈ tAll P ↔ w ∈ P := by
  unfold tAll
  rw [tFold_mem]
  simp
theorem tFold_ss : ∀ (P L : List Tm), (∀ z ∈ P, wf z) → (∀ z ∈ L, wf z) → ss L → ss (P.foldl (fun L z => tIns z L) L)
  | [], L, _, _, h => h
  | y :: P, L, h1, h2, h => by
    rw [List.foldl_cons]
    refine tFold_ss P _ (fun z hz => h1 z (List.mem_cons_of_mem _ hz)) (fun z hz => ?_) (tIns_ss (h1 y List.mem_cons_self) h2 h)
    rcases tIns_mem.mp hz with e | hz
    · rw [e]; exact h1 y List.mem_cons_self
    · exact h2 z hz
theorem tAll_ss {P : List Tm} (h : ∀ z ∈ P, wf z) : ss (tAll P) := tFold_ss P [] h (by simp) List.Pairwise.nil
theorem tFold_len : ∀ (P L : List Tm), (P.foldl (fun L z => tIns z L) L).length ≤ L.length + P.length
  | [], L => by simp
  | y :: P, L => by
    have := tFold_len P (tIns y L)
    have := tIns_len (y := y) (L := L)
    rw [List.foldl_cons, List.length_cons]
    omega
theorem tAll_len (P : List Tm) : (tAll P).length ≤ P.length := by
  have := tFold_len P []
  simpa [tAll] using this
/-! how often, with a sign -/
noncomputable def net (z : Tm) : List (Tm × Int) → Int
  | [] => 0
  | q :: r => (if dc (q.1 = z) then q.2 else 0) + net z r
theorem net_snoc (z : Tm) (P : List (Tm × Int)) (y : Tm) (b : Int) : net z (P ++ [(y, b)]) = net z P + (if dc (y = z) then b else 0) := by
  induction P with
  | nil => simp [net]
  | cons q P ih =>
    simp only [List.cons_append, net, ih]
    omega
theorem net_not {z : Tm} {P : List (Tm × Int)} (h : z ∉ P.map (·.1)) : net z P = 0 := by
  induction P with
  | nil => rfl
  | cons q P ih =>
    rw [List.map_cons, List.mem_cons] at h
    simp only [net]
    rw [dc_f (fun e => h (Or.inl e.symm)), ih (fun z => h (Or.inr z))]
    rfl
theorem net_bd {z : Tm} {P : List (Tm × Int)} (h : ∀ q ∈ P, -1 ≤ q.2 ∧ q.2 ≤ 1) : -(P.length : Int) ≤ net z P ∧ net z P ≤ P.length := by
  induction P with
  | nil => simp [net]
  | cons q P ih =>
    have h1 := h q List.mem_cons_self
    have h2 := ih fun r hr => h r (List.mem_cons_of_mem _ hr)
    simp only [net, List.length_cons]
    split <;> omega
/-! reading what another kind of write left -/
theorem gP_wA {σ : am_S} {n k : Nat} {v : Int32} : gP (wA σ n k v) = gP σ := rfl
theorem gP_wS {σ : am_S} {n k : Nat} {v : Int32} : gP (wS σ n k v) = gP σ := rfl
theorem gA_wP {σ : am_S} {n k : Nat} {v : Option Nat} : gA (wP σ n k v) = gA σ := rfl
theorem gS_wP {σ : am_S} {n k : Nat} {v : Option Nat} : gS (wP σ n k v) = gS σ := rfl
theorem gA_wJ {σ : am_S} {n k : Nat} {v : Int64} : gA (wJ σ n k v) = gA σ := rfl
theorem gS_wJ {σ : am_S} {n k : Nat} {v : Int64} : gS (wJ σ n k v) = gS σ := rfl
theorem gP_wJ {σ : am_S} {n k : Nat} {v : Int64} : gP (wJ σ n k v) = gP σ := rfl
theorem gJ_wS {σ : am_S} {n k : Nat} {v : Int32} : gJ (wS σ n k v) = gJ σ := rfl
theorem gJ_wA {σ : am_S} {n k : Nat} {v : Int32} : gJ (wA σ n k v) = gJ σ := rfl
theorem gJ_wP {σ : am_S} {n k : Nat} {v : Option Nat} : gJ (wP σ n k v) = gJ σ := rfl
/-! the class: tally -/
/-- the class's unknowns: these terms, with these numbers -/
def uk (σ : am_S) (P : List (Tm × Int)) : Prop := gS σ 35 7 = nI (tAll (P.map (·.1))).length ∧ (∀ i z, (tAll (P.map (·.1)))[i]? = some z → (∃ t, gP σ 43 i = some t ∧ Rp σ t z) ∧ (gA σ 44 i).toInt = net z P)
section TA
variable {σ τ : am_S}
abbrev tW (σ τ : am_S) : Prop := gw [(35, 7)] [44] [] [43] 0 0 σ τ
theorem x_tallyPart {t d : Nat} {y : Tm} {P : List (Tm × Int)} {by1 : Int32} {b : Int} {Q : Unit → am_S → Prop} (hb : by1.toInt = b) (hb1 : -1 ≤ b ∧ b ≤ 1) (hP : ∀ q ∈ P, (-1 ≤ q.2 ∧ q.2 ≤ 1) ∧ Can q.1 ∧ fits q.1) (hl : P.length < 16) (hy : Can y) (hf : fits y) (ht : Rp σ t y) (hu : uk σ P) (H : ∀ τ, tW σ τ → uk τ (P ++ [(y, b)]) → Q () τ) : am_K ru am_Lx IX9_tallyPart (d + 42) [.ref 35, .ref t, .int by1] σ Q := by
  obtain ⟨u1, u2⟩ := hu
  have hPw : ∀ z ∈ P.map (·.1), Can z ∧ fits z := fun z hz => by
    obtain ⟨q, hq, e⟩ := List.mem_map.mp hz
    rw [← e]
    exact (hP q hq).2
  generalize hL : tAll (P.map (·.1)) = L at u1 u2
  have hLm : ∀ z ∈ L, Can z ∧ fits z := fun z hz => hPw z (tAll_mem.mp (by rw [hL]; exact hz))
  have hLs : ss L := by rw [← hL]; exact tAll_ss fun z hz => Can_wf (hPw z hz).1
  have hLl : L.length < 16 := by
    have := tAll_len (P.map (·.1))
    rw [hL] at this
    simp at this
    omega
  have hyw := Can_wf hy
  have hy40 := hf.1
  have hT := Rp_T ht
  have hmap : (P ++ [(y, b)]).map (·.1) = P.map (·.1) ++ [y] := by simp
  have eAll : tAll ((P ++ [(y, b)]).map (·.1)) = tIns y L := by rw [hmap, tAll_snoc, hL]
  have hbd : ∀ z, -(P.length : Int) ≤ net z P ∧ net z P ≤ P.length := fun z => net_bd fun q hq => (hP q hq).1
  -- the place is found
  have at' : ∀ j, j ≤ L.length → (∀ z ∈ L.take j, tlt z y) → (∀ z, L[j]? = some z → ¬ tlt z y) → am_X ru am_Lx IX9_tallyPart (d + 42) 30 [some (.ref 35), some (.ref t), some (.int by1), some (.int (nI j)), none] [] σ Q := by
    intro j hj h1 h2
    -- it is new
    have new : (∀ z, L[j]? = some z → tlt y z) → am_X ru am_Lx IX9_tallyPart (d + 42) 79 [some (.ref 35), some (.ref t), some (.int by1), some (.int (nI j)), some (.int (nI L.length))] [] σ Q := by
      intro h3
      have hins := tIns_new h1 h3
      have hnot : y ∉ P.map (·.1) := fun hin => by
        have hyL : y ∈ L := by rw [← hL]; exact tAll_mem.mpr hin
        rw [← List.take_append_drop j L] at hyL
        rcases List.mem_append.mp hyL with q | q
        · exact tlt_irr _ (h1 y q)
        · obtain ⟨i, hi, e⟩ := List.getElem_of_mem q
          have hi2 : j + i < L.length := by simp at hi; omega
          have e2 : L[j + i] = y := by rw [← e]; simp
          have h4 := h3 L[j] (List.getElem?_eq_getElem (by omega))
          rcases Nat.eq_zero_or_pos i with q0 | q0
          · subst q0
            simp at e2
            rw [e2] at h4
            exact tlt_irr _ h4
          · have := so_lt hLs (i := j) (j := j + i) (by omega) hi2
            rw [e2] at this
            exact tlt_asym h4 this
      have hne : ∀ z ∈ L, ¬ y = z := fun z hz e => hnot (by rw [e]; exact tAll_mem.mp (by rw [hL]; exact hz))
      have fin : ∀ τ, tW σ τ → gS τ 35 7 = nI L.length → (∀ i z, i < j → L[i]? = some z → (∃ u, gP τ 43 i = some u ∧ Rp σ u z) ∧ (gA τ 44 i).toInt = net z P) → (∀ i z, j ≤ i → L[i]? = some z → (∃ u, gP τ 43 (i + 1) = some u ∧ Rp σ u z) ∧ (gA τ 44 (i + 1)).toInt = net z P) → am_X ru am_Lx IX9_tallyPart (d + 42) 79 [some (.ref 35), some (.ref t), some (.int by1), some (.int (nI j)), some (.int (nI j))] [] τ Q := by
        intro τ g1 g2 g3 g4
        refine vX9_tallyPart_79 (pk_le j j (fun _ => ?_) (fun h => by omega))
        rw [nI_clamp (n := j) (by omega), g2, nI_1]
        have g5 : tW σ (wS (wA (wP τ 43 j (some t)) 44 j by1) 35 7 (nI (L.length + 1))) := gw_wS (gw_wA (gw_wP g1 (by simp) (by omega)) (by simp)) (by simp) (by omega)
        refine ⟨pk_in j 16 (by omega), Rp_T (Rp_ext (gw_ext g1) ht), pk_in j 16 (by omega), H _ g5 ?_⟩
        unfold uk
        rw [eAll, hins]
        refine ⟨by rw [wS_at, ins_len hj], fun i z hz => ?_⟩
        have hi := get_lt hz
        rw [ins_len hj] at hi
        rw [ins_get hj hi] at hz
        rw [gA_wS, net_snoc, gP_wS, gP_wA]
        by_cases h5 : i < j
        · rw [if_pos h5] at hz
          obtain ⟨⟨w, w1, w2⟩, w3⟩ := g3 i z h5 hz
          refine ⟨⟨w, by rw [wP_ne (by omega)]; exact w1, Rp_ext (gw_ext g5) w2⟩, ?_⟩
          rw [wA_ne (by omega), gA_wP, w3, dc_f (hne z (get_mem hz))]
          simp
        · rw [if_neg h5] at hz
          by_cases h6 : i = j
          · rw [if_pos h6] at hz
            cases hz
            subst h6
            refine ⟨⟨t, wP_at _ _ _ _, Rp_ext (gw_ext g5) ht⟩, ?_⟩
            rw [wA_at, hb, net_not hnot, dc_iff.mpr rfl]
            simp
          · rw [if_neg h6] at hz
            obtain ⟨⟨w, w1, w2⟩, w3⟩ := g4 (i - 1) z (by omega) hz
            rw [show i - 1 + 1 = i by omega] at w1 w3
            refine ⟨⟨w, by rw [wP_ne (by omega)]; exact w1, Rp_ext (gw_ext g5) w2⟩, ?_⟩
            rw [wA_ne (by omega), gA_wP, w3, dc_f (hne z (get_mem hz))]
            simp
      have loop : ∀ q m τ, m = j + q → m ≤ L.length → tW σ τ → gS τ 35 7 = nI L.length → (∀ i z, i < m → L[i]? = some z → (∃ u, gP τ 43 i = some u ∧ Rp σ u z) ∧ (gA τ 44 i).toInt = net z P) → (∀ i z, m ≤ i → L[i]? = some z → (∃ u, gP τ 43 (i + 1) = some u ∧ Rp σ u z) ∧ (gA τ 44 (i + 1)).toInt = net z P) → am_X ru am_Lx IX9_tallyPart (d + 42) 79 [some (.ref 35), some (.ref t), some (.int by1), some (.int (nI j)), some (.int (nI m))] [] τ Q := by
        intro q
        induction q with
        | zero =>
          intro m τ e hm g1 g2 g3 g4
          obtain rfl : m = j := by omega
          exact fin τ g1 g2 g3 g4
        | succ q ih =>
          intro m τ e hm g1 g2 g3 g4
          obtain ⟨m', rfl⟩ : ∃ m', m = m' + 1 := ⟨m - 1, by omega⟩
          have hmL : m' < L.length := by omega
          obtain ⟨⟨u, w1, w2⟩, w3⟩ := g3 m' _ (by omega) (List.getElem?_eq_getElem hmL)
          refine vX9_tallyPart_79 (pk_le (m' + 1) j (fun h => by omega) (fun _ => ?_))
          rw [nI_pred, pk_m1, nI_clamp (n := m') (by omega), nI_clamp (n := m' + 1) (by omega)]
          refine ⟨pk_in m' 16 (by omega), o_s w1 ⟨pk_in (m' + 1) 16 (by omega), Rp_T (Rp_ext (gw_ext g1) w2), pk_in m' 16 (by omega), pk_in (m' + 1) 16 (by omega), ?_⟩⟩
          refine ih m' _ (by omega) (by omega) (gw_wA (gw_wP g1 (by simp) (by omega)) (by simp)) g2 (fun i z hi hz => ?_) (fun i z hi hz => ?_)
          · obtain ⟨⟨v, v1, v2⟩, v3⟩ := g3 i z (by omega) hz
            rw [gP_wA, wP_ne (by omega), wA_ne (by omega), gA_wP]
            exact ⟨⟨v, v1, v2⟩, v3⟩
          · by_cases e2 : i = m'
            · subst e2
              rw [List.getElem?_eq_getElem hmL] at hz
              cases hz
              rw [gP_wA, wP_at, wA_at]
              exact ⟨⟨u, rfl, w2⟩, w3⟩
            · obtain ⟨⟨v, v1, v2⟩, v3⟩ := g4 i z (by omega) hz
              rw [gP_wA, wP_ne (by omega), wA_ne (by omega), gA_wP]
              exact ⟨⟨v, v1, v2⟩, v3⟩
      exact loop (L.length - j) L.length σ (by omega) (Nat.le_refl _) gw_rfl u1 (fun i z _ hz => u2 i z hz) (fun i z hi hz => absurd (get_lt hz) (by omega))
    refine vX9_tallyPart_30 (pk_le L.length j (fun h => ?_) (fun h => ?_) u1 rfl (by omega) (by omega))
    · rw [u1]
      exact pk_lt L.length 16 (fun _ => new fun z hz => absurd (get_lt hz) (by omega)) (fun h => by omega)
    · have hjl : j < L.length := h
      obtain ⟨⟨u, e1, e2⟩, e3⟩ := u2 j _ (List.getElem?_eq_getElem hjl)
      rw [nI_clamp (n := j) (by omega)]
      refine ⟨pk_in j 16 (by omega), o_s e1 ?_⟩
      have hm := List.getElem_mem hjl
      have hf2 := (hLm _ hm).2.1
      rw [show d + 41 = (d + 40 - L[j].length) + L[j].length + 1 by omega]
      refine x_compare L[j] (hLm _ hm).1 y u t 0 _ σ _ hy e2 ht (by omega) (by omega) (fun h v hv => absurd h (h2 _ (List.getElem?_eq_getElem hjl))) (fun h => ?_) (fun h v hv => ?_)
      · refine ⟨fun z => absurd rfl z, fun _ => ⟨pk_in j 16 (by omega), pk_in j 16 (by omega), ?_⟩⟩
        have hyL : y ∈ L := by rw [← h]; exact hm
        have g5 : tW σ (wA σ 44 j (gA σ 44 j + by1)) := gw_wA gw_rfl (by simp)
        refine H _ g5 ?_
        unfold uk
        rw [eAll, tIns_old hLs hyL]
        refine ⟨by rw [gS_wA]; exact u1, fun i z hz => ?_⟩
        have hi := get_lt hz
        obtain ⟨⟨w, w1, w2⟩, w3⟩ := u2 i z hz
        refine ⟨⟨w, by rw [gP_wA]; exact w1, Rp_ext (gw_ext g5) w2⟩, ?_⟩
        rw [net_snoc]
        by_cases e : i = j
        · subst e
          have ez : L[i] = z := by
            rw [List.getElem?_eq_getElem hjl] at hz
            exact Option.some.inj hz
          have hb2 := hbd z
          rw [wA_at, t_add w3 hb (by omega), dc_iff.mpr (by rw [← ez, h]), if_pos rfl]
        · rw [wA_ne (by omega), w3, dc_f (fun e2 => ?_)]
          · simp
          · have ez : L[i] = z := by
              rw [List.getElem?_eq_getElem hi] at hz
              exact Option.some.inj hz
            rw [← e2, ← h] at ez
            rcases Nat.lt_or_gt_of_ne e with q | q
            · have := so_lt hLs q hjl
              rw [ez] at this
              exact tlt_irr _ this
            · have := so_lt hLs q hi
              rw [ez] at this
              exact tlt_irr _ this
      · have hv0 : ¬ v = 0 := fun e => by
          rw [e] at hv
          exact absurd hv (by decide)
        refine ⟨fun _ => ?_, fun z => absurd z hv0⟩
        rw [show d + 40 - L[j].length + L[j].length + 1 = d + 41 by omega, u1]
        exact pk_lt L.length 16 (fun _ => new fun z hz => by rw [List.getElem?_eq_getElem hjl] at hz; cases hz; exact h) (fun h => by omega)
  have up : ∀ m j, j + m = L.length → (∀ z ∈ L.take j, tlt z y) → am_X ru am_Lx IX9_tallyPart (d + 42) 2 [some (.ref 35), some (.ref t), some (.int by1), some (.int (nI j)), none] [] σ Q := by
    intro m
    induction m with
    | zero =>
      intro j hj h1
      exact vX9_tallyPart_2 (pk_le L.length j (fun _ => at' j (by omega) h1 fun z hz => absurd (get_lt hz) (by omega)) (fun h => by omega) u1 rfl (by omega) (by omega))
    | succ m ih =>
      intro j hj h1
      have hjl : j < L.length := by omega
      obtain ⟨⟨u, e1, e2⟩, e3⟩ := u2 j _ (List.getElem?_eq_getElem hjl)
      have hm := List.getElem_mem hjl
      have hf2 := (hLm _ hm).2.1
      refine vX9_tallyPart_2 (pk_le L.length j (fun h => by omega) (fun _ => ?_) u1 rfl (by omega) (by omega))
      rw [nI_clamp (n := j) (by omega), nI_1]
      refine ⟨pk_in j 16 (by omega), o_s e1 ?_⟩
      have stop : ¬ tlt L[j] y → am_X ru am_Lx IX9_tallyPart (d + 42) 30 [some (.ref 35), some (.ref t), some (.int by1), some (.int (nI j)), none] [] σ Q := fun h => at' j (by omega) h1 fun z hz => by
        rw [List.getElem?_eq_getElem hjl] at hz
        cases hz
        exact h
      rw [show d + 41 = (d + 40 - L[j].length) + L[j].length + 1 by omega]
      refine x_compare L[j] (hLm _ hm).1 y u t 0 _ σ _ hy e2 ht (by omega) (by omega) (fun h v hv => ?_) (fun h => ?_) (fun h v hv => ?_)
      · refine ⟨fun z => absurd z (by rw [i_lt] at hv; rw [i_le]; omega), fun _ => ?_⟩
        rw [show d + 40 - L[j].length + L[j].length + 1 = d + 41 by omega]
        refine ih (j + 1) (by omega) fun z hz => ?_
        rw [take_snoc hjl] at hz
        rcases List.mem_append.mp hz with q | q
        · exact h1 z q
        · rw [List.mem_singleton.mp q]; exact h
      · refine ⟨fun _ => ?_, fun z => absurd (by decide) z⟩
        rw [show d + 40 - L[j].length + L[j].length + 1 = d + 41 by omega]
        exact stop (by rw [h]; exact tlt_irr _)
      · refine ⟨fun _ => ?_, fun z => absurd (Int32.le_of_lt hv) z⟩
        rw [show d + 40 - L[j].length + L[j].length + 1 = d + 41 by omega]
        exact stop (tlt_asym h)
  exact vX9_tallyPart (up L.length 0 (by omega) (by simp))
/-- all parts of one side -/
theorem x_tally {t d k : Nat} {x : Tm} {P : List (Tm × Int)} {by1 : Int32} {b : Int} {Q : Unit → am_S → Prop} (hb : by1.toInt = b) (hb1 : -1 ≤ b ∧ b ≤ 1) (hP : ∀ q ∈ P, (-1 ≤ q.2 ∧ q.2 ≤ 1) ∧ Can q.1 ∧ fits q.1) (hl : P.length + (fl1 k x).length ≤ 16) (hk : k = 3 ∨ k = 4) (hx : Can x) (hf : fits x) (ht : Rp σ t x) (h6 : gS σ 35 6 = nI k) (hu : uk σ P) (H : ∀ τ, tW σ τ → uk τ (P ++ (fl1 k x).map (fun z => (z, b))) → Q () τ) : am_K ru am_Lx IX9_tally (d + 43) [.ref 35, .ref t, .int by1] σ Q := by
  have hkd := Rp_kd ht
  have hpos := fl1_pos hk hx
  have hck := Can_kd hx
  refine vX9_tally ⟨Rp_T ht, ?_⟩
  refine pk_eq (kd x) k (fun e => ?_) (fun e => ?_) hkd.1 h6 (by omega) (by omega)
  · rw [fl1_eq e] at H hl
    obtain ⟨a, a1, a2, a3⟩ := Rp_pts ht
    have hfp := fits_pts hx hf
    have hcp := (Can_pts hx).2.2
    have loop : ∀ m i τ, i + m = (pts x).length → tW σ τ → uk τ (P ++ ((pts x).take i).map (fun z => (z, b))) → am_X ru am_Lx IX9_tally (d + 43) 20 [some (.ref 35), some (.ref t), some (.int by1), some (.int (nI i))] [] τ Q := by
      intro m
      induction m with
      | zero =>
        intro i τ hi g1 g2
        have b1 := isAr_ext (gw_ext g1) a2
        have q1 : gQ τ t = some a := by
          rw [((gw_ext g1).2 t (Rp_T ht).1 (Rp_T ht).2.1).2.2.1]
          exact a1
        refine vX9_tally_20 ⟨Rp_T (Rp_ext (gw_ext g1) ht), o_s q1 ⟨ar_A b1, ?_⟩⟩
        rw [ar_L b1]
        refine pk_le (pts x).length i (fun _ => H τ g1 ?_) (fun h => by omega)
        rw [List.take_of_length_le (by omega)] at g2
        exact g2
      | succ m ih =>
        intro i τ hi g1 g2
        have hip : i < (pts x).length := by omega
        have b1 := isAr_ext (gw_ext g1) a2
        have b2 := (gw_ext g1).2 t (Rp_T ht).1 (Rp_T ht).2.1
        have q1 : gQ τ t = some a := by
          rw [b2.2.2.1]
          exact a1
        obtain ⟨u, u1, u2⟩ := a3 i _ (List.getElem?_eq_getElem hip)
        have q2 : gP τ a i = some u := by
          rw [((gw_ext g1).2 a a2.1 a2.2.1).2.2.2.2]
          exact u1
        refine vX9_tally_20 ⟨Rp_T (Rp_ext (gw_ext g1) ht), o_s q1 ⟨ar_A b1, ?_⟩⟩
        rw [ar_L b1, nI_clamp (n := i) (by omega), nI_1]
        refine pk_le (pts x).length i (fun h => by omega) (fun _ => ⟨Rp_T (Rp_ext (gw_ext g1) ht), o_s q1 ⟨ar_R b1, by rw [ar_L b1]; exact pk_in i _ hip, o_s q2 ?_⟩⟩)
        have hmem := List.getElem_mem hip
        refine x_tallyPart (d := d) (P := P ++ ((pts x).take i).map (fun z => (z, b))) hb hb1 (fun q hq => ?_) (by simp; omega) (hcp _ hmem) (hfp.2 _ hmem) (Rp_ext (gw_ext g1) u2) g2 fun υ k1 k2 => ?_
        · rcases List.mem_append.mp hq with hq | hq
          · exact hP q hq
          · obtain ⟨z, hz, e2⟩ := List.mem_map.mp hq
            rw [← e2]
            have hz2 := List.mem_of_mem_take hz
            exact ⟨hb1, hcp z hz2, hfp.2 z hz2⟩
        · refine ih (i + 1) υ (by omega) (gw_trans g1 k1) ?_
          rw [take_snoc hip, List.map_append, ← List.append_assoc]
          exact k2
    refine loop (pts x).length 0 σ (by omega) gw_rfl ?_
    simpa using hu
  · rw [fl1_ne e] at H hl
    refine x_tallyPart (d := d) (P := P) hb hb1 hP (by simp at hl; omega) hx hf ht hu fun υ k1 k2 => ?_
    exact H υ k1 (by simpa using k2)
end TA
