/-! ===== unknowns with numbers that are not 0 ===== -/
def nz (q : Tm × Int) : Bool := decide (q.2 ≠ 0)
def vn (U : List (Tm × Int)) : Nat := (U.filter (fun q => decide (kd q.1 = 0))).length
theorem vn_snoc (U : List (Tm × Int)) (q : Tm × Int) : vn (U ++ [q]) = vn U + (if kd q.1 = 0 then 1 else 0) := by
  unfold vn
  rw [List.filter_append, List.length_append]
  by_cases h : kd q.1 = 0
  · simp [h]
  · simp [h]
theorem vn_le (U : List (Tm × Int)) : vn U ≤ U.length := List.length_filter_le _ _
/-- the class's unknowns -/
def un (σ : am_S) (U : List (Tm × Int)) : Prop := gS σ 35 7 = nI U.length ∧ gS σ 35 8 = nI (vn U) ∧ ∀ i q, U[i]? = some q → (∃ t, gP σ 43 i = some t ∧ Rp σ t q.1) ∧ (gA σ 44 i).toInt = q.2
section DE
variable {σ τ : am_S}
theorem x_dropEqual {d : Nat} {W : List (Tm × Int)} {Q : Unit → am_S → Prop} (hW : W.length ≤ 16) (hC : ∀ q ∈ W, Can q.1) (hs : gS σ 35 7 = nI W.length) (he : ∀ i q, W[i]? = some q → (∃ t, gP σ 43 i = some t ∧ Rp σ t q.1) ∧ (gA σ 44 i).toInt = q.2) (H : ∀ τ, gw [(35, 7), (35, 8)] [44] [] [43] 0 0 σ τ → un τ (W.filter nz) → Q () τ) : am_K ru am_Lx IX9_dropEqual (d + 1) [.ref 35] σ Q := by
  have loop : ∀ m j τ, j + m = W.length → gw [(35, 7), (35, 8)] [44] [] [43] 0 0 σ τ → gS τ 35 7 = nI W.length → gS τ 35 8 = nI (vn ((W.take j).filter nz)) → (∀ i q, ((W.take j).filter nz)[i]? = some q → (∃ t, gP τ 43 i = some t ∧ Rp σ t q.1) ∧ (gA τ 44 i).toInt = q.2) → (∀ i q, j ≤ i → W[i]? = some q → (∃ t, gP τ 43 i = some t ∧ Rp σ t q.1) ∧ (gA τ 44 i).toInt = q.2) → am_X ru am_Lx IX9_dropEqual (d + 1) 9 [some (.ref 35), some (.int (nI ((W.take j).filter nz).length)), some (.int (nI j))] [] τ Q := by
    intro m
    induction m with
    | zero =>
      intro j τ hj g1 g2 g3 g4 g5
      rw [List.take_of_length_le (by omega)] at g3 g4 ⊢
      refine vX9_dropEqual_9 (pk_le W.length j (fun _ => ?_) (fun h => by omega) g2 rfl (by omega) (by omega))
      have g6 : gw [(35, 7), (35, 8)] [44] [] [43] 0 0 σ (wS τ 35 7 (nI (W.filter nz).length)) := gw_wS g1 (by simp) (by omega)
      refine H _ g6 ⟨wS_at _ _ _ _, by rw [wS_ne (by omega)]; exact g3, fun i q hq => ?_⟩
      obtain ⟨⟨u, u1, u2⟩, u3⟩ := g4 i q hq
      exact ⟨⟨u, by rw [gP_wS]; exact u1, Rp_ext (gw_ext g6) u2⟩, by rw [gA_wS]; exact u3⟩
    | succ m ih =>
      intro j τ hj g1 g2 g3 g4 g5
      have hjl : j < W.length := by omega
      have hfl : ((W.take j).filter nz).length ≤ j := by
        have := List.length_filter_le nz (W.take j)
        rw [List.length_take] at this
        omega
      obtain ⟨⟨u, u1, u2⟩, u3⟩ := g5 j _ (Nat.le_refl _) (List.getElem?_eq_getElem hjl)
      have et : W.take (j + 1) = W.take j ++ [W[j]] := take_snoc hjl
      have hCj := Can_kd (hC _ (List.getElem_mem hjl))
      refine vX9_dropEqual_9 (pk_le W.length j (fun h => by omega) (fun _ => ?_) g2 rfl (by omega) (by omega))
      rw [nI_clamp (n := j) (by omega)]
      by_cases hz : W[j].2 = 0
      · have ef : (W.take (j + 1)).filter nz = (W.take j).filter nz := by
          rw [et, List.filter_append]
          simp [nz, hz]
        refine ⟨pk_in j 16 (by omega), fun _ => ?_, fun z => absurd (i_eq.mpr (by rw [u3, hz]; rfl)) z⟩
        rw [nI_1]
        have q := ih (j + 1) τ (by omega) g1 g2
        rw [ef] at q
        exact q g3 g4 fun i q hi => g5 i q (by omega)
      · have hz2 : ¬ gA τ 44 j = 0 := fun e => hz (by rw [← u3, e]; rfl)
        have ef : (W.take (j + 1)).filter nz = (W.take j).filter nz ++ [W[j]] := by
          rw [et, List.filter_append]
          simp [nz, hz]
        have q0 := ih (j + 1)
        rw [ef] at q0
        generalize hK : (W.take j).filter nz = K at g3 g4 hfl q0 ⊢
        refine ⟨pk_in j 16 (by omega), fun e => absurd e hz2, fun _ => ⟨pk_in j 16 (by omega), o_s u1 ?_⟩⟩
        rw [nI_clamp (n := K.length) (by omega)]
        have e3 : gP (wP τ 43 K.length (some u)) 43 j = some u := by
          by_cases e : j = K.length
          · rw [← e]
            exact wP_at _ _ _ _
          · rw [wP_ne (by omega)]
            exact u1
        have g6 : gw [(35, 7), (35, 8)] [44] [] [43] 0 0 σ (wA (wP τ 43 K.length (some u)) 44 K.length (gA τ 44 j)) := gw_wA (gw_wP g1 (by simp) (by omega)) (by simp)
        have hk := (Rp_kd (Rp_ext (gw_ext g1) u2)).1
        have go : ∀ v, v = nI (vn (K ++ [W[j]])) → am_X ru am_Lx IX9_dropEqual (d + 1) 9 [some (.ref 35), some (.int (nI K.length + 1)), some (.int (nI j + 1))] [] (wS (wA (wP τ 43 K.length (some u)) 44 K.length (gA τ 44 j)) 35 8 v) Q := by
          intro v hv
          have q := q0 (wS (wA (wP τ 43 K.length (some u)) 44 K.length (gA τ 44 j)) 35 8 v) (by omega) (gw_wS g6 (by simp) (by omega))
          rw [List.length_append, List.length_singleton] at q
          rw [nI_1, nI_1]
          refine q ?_ ?_ (fun i q hq => ?_) (fun i q hi hq => ?_)
          · rw [wS_ne (by omega)]
            exact g2
          · rw [wS_at]
            exact hv
          · rw [gP_wS, gP_wA, gA_wS]
            have hi := get_lt hq
            rw [List.length_append, List.length_singleton] at hi
            by_cases e : i = K.length
            · subst e
              rw [List.getElem?_append_right (Nat.le_refl _), Nat.sub_self] at hq
              cases hq
              rw [wP_at, wA_at]
              exact ⟨⟨u, rfl, u2⟩, u3⟩
            · rw [List.getElem?_append_left (by omega)] at hq
              rw [wP_ne (by omega), wA_ne (by omega), gA_wP]
              exact g4 i q hq
          · rw [gP_wS, gP_wA, gA_wS, wP_ne (by omega), wA_ne (by omega), gA_wP]
            exact g5 i q (by omega) hq
        refine ⟨pk_in K.length 16 (by omega), Rp_T (Rp_ext (gw_ext g1) u2), pk_in j 16 (by omega), pk_in K.length 16 (by omega), pk_in j 16 (by omega), o_s e3 ⟨Rp_T (Rp_ext (gw_ext g6) u2), fun hne => ?_, fun heq => ?_⟩⟩
        · refine go _ ?_
          rw [g3, vn_snoc, if_neg (fun e => hne (by rw [hk, e]; rfl))]
          exact nI_add _ 0
        · refine go _ ?_
          rw [g3, vn_snoc, if_pos ((nI_eq (by omega) (by omega)).mp (hk ▸ heq : nI (kd W[j].1) = nI 0))]
          exact nI_1 _
  have q := loop W.length 0 (wS σ 35 8 (0 : Int32)) (by omega) (gw_wS gw_rfl (by simp) (by omega)) (by rw [wS_ne (by omega)]; exact hs) (by rw [wS_at]; rfl)
  refine vX9_dropEqual (q (fun i q hq => ?_) (fun i q _ hq => ?_))
  · simp at hq
  · rw [gP_wS, gA_wS]
    exact he i q hq
end DE
/-! class Basis, object 36: begin, changed, has, given -/
section B36b
variable {σ τ : am_S} {U : Nat} {A : Nat → Nat → Int}
theorem bg_1 : (if (0 : Int32) < (if (Int32.ofNat 1) < (1 : Int32) then (Int32.ofNat 1) else (1 : Int32)) then (if (Int32.ofNat 1) < (1 : Int32) then (Int32.ofNat 1) else (1 : Int32)) else (0 : Int32)) = nI 1 := by decide +kernel
theorem bg_u : ∀ n, n < 17 → (if (0 : Int32) < (if nI 16 < nI n then nI 16 else nI n) then (if nI 16 < nI n then nI 16 else nI n) else (0 : Int32)) = nI n := by decide +kernel
theorem x_begin36 {d : Nat} {Q : Unit → am_S → Prop} (hU : U ≤ 16) (h0 : gS σ 36 0 = nI 16) (h1 : gS σ 36 1 = nI 16) (H : ∀ τ, gw [(36, 8), (36, 9), (36, 11)] [37] [] [] 0 0 σ τ → bs36 1 U (fun _ _ => 0) τ → Q () τ) : am_K ru am_Lx IX0_begin (d + 1) [.ref 36, .int (1 : Int32), .int (nI U)] σ Q := by
  have loop : ∀ m k τ, k + m = 16 → gw [(36, 8), (36, 9), (36, 11)] [37] [] [] 0 0 σ τ → gS τ 36 8 = nI 1 → gS τ 36 9 = nI U → (∀ j, j < k → gA τ 37 j = 0) → am_X ru am_Lx IX0_begin (d + 1) 40 [some (.ref 36), some (.int (1 : Int32)), some (.int (nI U)), some (.int (nI k))] [] τ Q := by
    intro m
    induction m with
    | zero =>
      intro k τ hk g1 g2 g3 g4
      refine vX0_begin_36_40 (pk_le 16 k (fun _ => H τ g1 ⟨?_, ?_, g2, g3, Nat.le_refl _, hU, fun r hr j hj => ?_⟩) (fun h => by omega))
      · rw [gw_S g1 (by omega) (by decide)]; exact h0
      · rw [gw_S g1 (by omega) (by decide)]; exact h1
      · rw [show 16 * r + j = j by omega, g4 j (by omega)]
        exact ⟨rfl, show (-9 : Int) ≤ 0 by decide, show (0 : Int) ≤ 9 by decide⟩
    | succ m ih =>
      intro k τ hk g1 g2 g3 g4
      refine vX0_begin_36_40 (pk_le 16 k (fun h => by omega) (fun _ => ⟨pk_in k 16 (by omega), ?_⟩))
      rw [nI_clamp (n := k) (by omega), nI_1]
      refine ih (k + 1) _ (by omega) (gw_wA g1 (by simp)) g2 g3 fun j hj => ?_
      by_cases e : j = k
      · subst e
        exact wA_at _ _ _ _
      · rw [wA_ne (by omega)]
        exact g4 j (by omega)
  refine vX0_begin_36 ?_
  rw [bg_1, h0, bg_u U (by omega)]
  refine loop 16 0 _ (by omega) (gw_wS (gw_wS (gw_wS gw_rfl (by simp) (by omega)) (by simp) (by omega)) (by simp) (by omega)) ?_ ?_ (fun j hj => absurd hj (Nat.not_lt_zero _))
  · rw [wS_ne (by omega), wS_ne (by omega), wS_at]
  · rw [wS_ne (by omega), wS_at]
theorem x_changed36 {d j : Nat} {v : Int32} {w : Int} {Q : Int32 → am_S → Prop} (hb : bs36 1 U A σ) (hj : j < U) (hv : v.toInt = w) (hw : -9 ≤ w ∧ w ≤ 9) (H : ∀ r τ, gw [(36, 11)] [37] [] [] 0 0 σ τ → bs36 1 U (fun _ i => if i = j then w else A 0 i) τ → Q r τ) : am_K ri am_Lx IX0_changed (d + 1) [.ref 36, .int (0 : Int32), .int (nI j), .int v] σ Q := by
  obtain ⟨b0, b1, b2, b3, b4, b5, b6⟩ := hb
  have e : (0 : Int32) * gS σ 36 0 + nI j = nI j := by rw [Int32.zero_mul, Int32.zero_add]
  refine vX0_changed_36 ?_
  rw [e, nI_clamp (n := j) (by omega)]
  refine ⟨pk_in j 16 (by omega), pk_in j 16 (by omega), H _ _ (gw_wS (gw_wA gw_rfl (by simp)) (by simp) (by omega)) ⟨by rw [wS_ne (by omega)]; exact b0, by rw [wS_ne (by omega)]; exact b1, by rw [wS_ne (by omega)]; exact b2, by rw [wS_ne (by omega)]; exact b3, b4, b5, fun r hr i hi => ?_⟩⟩
  rw [gA_wS, show 16 * r + i = i by omega]
  by_cases e2 : i = j
  · subst e2
    rw [wA_at]
    show v.toInt = (if i = i then w else A 0 i) ∧ -9 ≤ (if i = i then w else A 0 i) ∧ (if i = i then w else A 0 i) ≤ 9
    rw [if_pos rfl]
    exact ⟨hv, hw⟩
  · have := b6 0 (by omega) i hi
    rw [wA_ne (by omega)]
    show (gA σ 37 i).toInt = (if i = j then w else A 0 i) ∧ -9 ≤ (if i = j then w else A 0 i) ∧ (if i = j then w else A 0 i) ≤ 9
    rw [if_neg e2]
    rw [show 16 * 0 + i = i by omega] at this
    exact this
theorem x_given36 {d i j : Nat} {F : List (List Nat)} {Q : Int32 → am_S → Prop} (h0 : gS σ 36 0 = nI 16) (hf : fs36 U F σ) (hi : i < F.length) (hi2 : i < 16) (hj : j < U) (hU : U ≤ 16) (H : Q (nI ((F.getD i []).getD j 0)) σ) : am_K ri am_Lx IX0_given (d + 1) [.ref 36, .int (nI i), .int (nI j)] σ Q := by
  have e : nI i * gS σ 36 0 + nI j = nI (16 * i + j) := by rw [h0, pk_mul, nI_add, Nat.mul_comm]
  refine vX0_given_36 ?_
  rw [e, nI_clamp (n := 16 * i + j) (by omega), hf.2 i hi hi2 j hj]
  exact ⟨pk_in (16 * i + j) 256 (by omega), H⟩
end B36b
