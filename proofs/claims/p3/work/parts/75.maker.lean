/-! ===== class Maker: making Terms ===== -/
def setT (σ : am_S) (t : Nat) (k a n v : Int32) (b : Nat) : am_S := wS (wS (wQ (wS (wS σ t 0 k) t 1 a) t (some b)) t 3 n) t 4 v
section MK
variable {S : List (Nat × Nat)} {A J P : List Nat} {c s : Nat} {σ σ0 τ : am_S}
theorem setT_ne {t b n j : Nat} {k a m v : Int32} (h : n ≠ t) : gS (setT σ t k a m v b) n j = gS σ n j := by
  unfold setT
  rw [wS_ne (fun z => h z.1), wS_ne (fun z => h z.1)]
  show gS (wS (wS σ t 0 k) t 1 a) n j = _
  rw [wS_ne (fun z => h z.1), wS_ne (fun z => h z.1)]
theorem gw_setT {t b : Nat} {k a m v : Int32} (h : gw S A J P c s σ0 σ) (hn : gn σ0 ≤ t) (h48 : 48 ≤ gn σ0) : gw S A J P c s σ0 (setT σ t k a m v b) := gw_wSd (gw_wSd (gw_wQd (gw_wSd (gw_wSd h hn h48) hn h48) hn) hn h48) hn h48
theorem take_snoc {α : Type} {L : List α} {i : Nat} (h : i < L.length) : L.take (i + 1) = L.take i ++ [L[i]] := by
  rw [List.take_add_one, List.getElem?_eq_getElem h]
  rfl
theorem x_init {t b k a d : Nat} {L : List Tm} {Q : Unit → am_S → Prop} (hw : ∀ y ∈ L, wf y) (hk : k ≤ 4) (ha : a < 22) (hT : isTm σ t) (hB : isAr σ b L.length) (hbs : b < am_sb) (he : gw S A J P c s σ0 σ) (h48 : 48 ≤ gn σ0) (ht : gn σ0 ≤ t) (hL : L.length ≤ 1000) (hE : ∀ i y, L[i]? = some y → ∃ u, gP σ b i = some u ∧ Rp σ0 u y) (H : ∀ τ, gw S A J P c s σ0 τ → gP τ = gP σ → (∀ n j, n < 48 → gS τ n j = gS σ n j) → gs τ = gs σ → Rp τ t (node k a L) → Q () τ) : am_K ru am_Lx IX8_init (d + 1) [.ref t, .int (nI k), .int (nI a), .ref b] σ Q := by
  have loop : ∀ m i, i + m = L.length → am_X ru am_Lx IX8_init (d + 1) 23 [some (.ref t), some (.int (nI k)), some (.int (nI a)), some (.ref b), some (.int (nI (1 + (L.take i).flatten.length))), some (.int (nI ((if k = 0 then 2 ^ a else 0) ||| vb (L.take i).flatten))), some (.int (nI i))] [] σ Q := by
    intro m
    induction m with
    | zero =>
      intro i hi
      refine vX8_init_23 ⟨ar_A hB, ?_⟩
      rw [ar_L hB]
      refine pk_le L.length i (fun _ => ⟨hT, hT, hT, hbs, hT, hT, ?_⟩) (fun h => by omega)
      have e : L.take i = L := List.take_of_length_le (by omega)
      rw [e]
      refine H (setT σ t (nI k) (nI a) _ _ b) (gw_setT he ht h48) rfl (fun n j hn => setT_ne (by omega)) rfl (Rp_mk (b := b) hw hT ?_ ?_ ?_ hB ?_ ?_ fun i y hy => ?_)
      · unfold setT
        rw [wS_ne (by omega), wS_ne (by omega)]
        show gS (wS (wS σ t 0 (nI k)) t 1 (nI a)) t 0 = _
        rw [wS_ne (by omega), wS_at]
      · unfold setT
        rw [wS_ne (by omega), wS_ne (by omega)]
        show gS (wS (wS σ t 0 (nI k)) t 1 (nI a)) t 1 = _
        rw [wS_at]
      · exact if_pos rfl
      · unfold setT
        rw [wS_ne (by omega), wS_at, node_len]
      · unfold setT
        rw [wS_at]
        rfl
      · obtain ⟨u, u1, u2⟩ := hE i y hy
        exact ⟨u, u1, Rp_ext (gw_ext (gw_setT he ht h48)) u2⟩
    | succ m ih =>
      intro i hi
      have hiL : i < L.length := by omega
      obtain ⟨u, u1, u2⟩ := hE i _ (List.getElem?_eq_getElem hiL)
      have u3 : Rp σ u L[i] := Rp_ext (gw_ext he) u2
      have hT2 := Rp_T u3
      refine vX8_init_23 ⟨ar_A hB, ?_⟩
      rw [ar_L hB, nI_clamp (n := i) (by omega), nI_1]
      refine pk_le L.length i (fun h => by omega) (fun _ => ⟨ar_R hB, vp_in_nI hiL (by omega), o_s u1 ⟨hT2, ar_R hB, vp_in_nI hiL (by omega), o_s u1 ⟨hT2, ?_⟩⟩⟩)
      have h3 : gS σ u 3 = nI L[i].length ∧ gS σ u 4 = nI (vb L[i]) := by
        obtain ⟨k', a', M, e, hM⟩ := wf_out (hw _ (List.getElem_mem hiL))
        rw [e] at u3 ⊢
        obtain ⟨_, _, _, _, _, g1, g2, _⟩ := Rp_out hM u3
        exact ⟨g1, g2⟩
      rw [h3.1, h3.2, nI_add, nx_or]
      have := ih (i + 1) (by omega)
      rw [take_snoc hiL, List.flatten_append, List.length_append, vb_app, ← Nat.add_assoc, ← Nat.or_assoc] at this
      simpa using this
  have h0 := loop L.length 0 (by omega)
  refine vX8_init ⟨fun z => ?_, fun z => ?_⟩
  · have : k ≠ 0 := fun e => z (by rw [e]; rfl)
    rw [if_neg this] at h0
    simp [vb] at h0
    exact h0
  · have : k = 0 := (nI_eq (a := k) (b := 0) (by omega) (by omega)).mp z
    rw [if_pos this] at h0
    rw [nx_1shl (by omega)]
    simp [vb] at h0
    exact h0
theorem x_bounded {t d : Nat} {x : Tm} {Q : Option Nat → am_S → Prop} (h : Rp σ t x) (hx : x.length < 2 ^ 31) (h1 : x.length ≤ 40 → Q (some t) σ) (h2 : 40 < x.length → Q none σ) : am_K rn am_Lx IX2_bounded (d + 1) [.ref t] σ Q := by
  have h3 : gS σ t 3 = nI x.length := by
    obtain ⟨k', a', M, e, hM⟩ := wf_out (Rp_wf h)
    rw [e] at h ⊢
    exact (Rp_out hM h).choose_spec.2.2.2.2.1
  refine vX2_bounded ⟨Rp_T h, ?_⟩
  rw [h3]
  exact pk_le x.length 40 h1 h2
theorem fits_flat {L : List Tm} (h : ∀ y ∈ L, fits y) : L.flatten.length ≤ 40 * L.length := by
  induction L with
  | nil => simp
  | cons x L ih =>
    have := ih fun y hy => h y (List.mem_cons_of_mem _ hy)
    have := (h x List.mem_cons_self).1
    rw [List.flatten_cons, List.length_append, List.length_cons]
    omega
theorem x_function {mk a d : Nat} {L : List Tm} {Q : Option Nat → am_S → Prop} (hL1 : 1 ≤ L.length) (hL3 : L.length ≤ 3) (ha : a < 3) (hm : mk + L.length ≤ 128) (ht : gS σ 3 3 = nI (mk + L.length)) (hs : ∀ i y, L[i]? = some y → Ro σ (gP σ 5 (mk + i)) y) (hb : bud 2 8 σ) (H : ∀ o τ, gw [(3, 3)] [] [] [] 2 8 σ τ → gS τ 3 3 = nI mk → Ro τ o (node 2 a L) → Q o τ) : am_K rn am_Lx IX2_function (d + 2) [.ref 3, .int (nI a), .int (nI mk)] σ Q := by
  have hC : ∀ y ∈ L, Can y := fun y hy => by
    obtain ⟨i, hi, e⟩ := List.getElem_of_mem hy
    exact (hs i y (by rw [List.getElem?_eq_getElem hi, e])).1
  have hw : ∀ y ∈ L, wf y := fun y hy => Can_wf (hC y hy)
  have hCn : Can (node 2 a L) := Can_mk (Or.inr (Or.inr (Or.inl ⟨rfl, ha, hL1, hL3⟩))) hC
  obtain ⟨b1, b2, b3, b4⟩ := hb
  have loop : ∀ m i τ, i + m = L.length → gw [(3, 3)] [] [] [] 1 L.length σ τ → gS τ 3 3 = nI mk → isAr τ (gn σ) L.length → (∀ j y, j < i → L[j]? = some y → fits y ∧ ∃ u, gP τ (gn σ) j = some u ∧ Rp σ u y) → am_X rn am_Lx IX2_function (d + 2) 32 [some (.ref 3), some (.int (nI a)), some (.int (nI mk)), some (.int (nI L.length)), some (.ref (gn σ)), some (.int (nI i))] [] τ Q := by
    intro m
    induction m with
    | zero =>
      intro i τ hi g1 g2 g3 g4
      have c1 := gw_gc g1
      have c2 := gw_gs g1
      have c3 := gw_nc g1
      have c4 := gw_n g1
      refine vX2_function_32 (pk_le L.length i (fun _ => ⟨by omega, by omega, ?_⟩) (fun h => by omega))
      have g5 := gw_nT g1 (by omega) (by omega) b4
      have hf : ∀ y ∈ L, fits y := fun y hy => by
        obtain ⟨j, hj, e⟩ := List.getElem_of_mem hy
        exact (g4 j y (by omega) (by rw [List.getElem?_eq_getElem hj, e])).1
      refine x_init (d := d) (k := 2) (L := L) (by exact hw) (by omega) (by omega) (nT_isT (by omega)) (isAr_ext (gw_ext (gw_nT (S := []) (A := []) (J := []) (P := []) (c := 0) (s := 0) gw_rfl (by omega) (by omega) (by omega))) g3) (by omega) g5 b4 c4 (by omega) (fun j y hy => ?_) (fun υ k1 k2 k3 _ k4 => ?_)
      · have hj : j < L.length := by
          rcases Nat.lt_or_ge j L.length with h | h
          · exact h
          · rw [List.getElem?_eq_none h] at hy; cases hy
        exact (g4 j y (by omega) hy).2
      · have hl : (node 2 a L).length ≤ 121 := by
          have := fits_flat hf
          rw [node_len]
          omega
        have k5 : gw [(3, 3)] [] [] [] 2 8 σ υ := gw_mono k1 (fun _ h => h) (fun _ h => h) (fun _ h => h) (fun _ h => h) (by omega) (by omega)
        have k6 : gS υ 3 3 = nI mk := by
          rw [k3 3 3 (by omega), ← g2]
          exact gw_S (gw_nT (S := []) (A := []) (J := []) (P := []) (c := 0) (s := 0) gw_rfl (by omega) (by omega) (by omega)) (by omega) (by simp)
        refine x_bounded (d := d) k4 (by omega) (fun h => ?_) (fun h => ?_)
        · exact o_s rfl (H _ υ k5 k6 ⟨hCn, Or.inl ⟨fits_of (by omega) h hf, _, rfl, k4⟩⟩)
        · exact o_n rfl (H _ υ k5 k6 ⟨hCn, Or.inr ⟨fun z => (by have := z.1; omega), rfl⟩⟩)
    | succ m ih =>
      intro i τ hi g1 g2 g3 g4
      have hiL : i < L.length := by omega
      have hro := hs i _ (List.getElem?_eq_getElem hiL)
      have e5 : gP τ 5 = gP σ 5 := gw_P g1 (by omega) (by simp)
      refine vX2_function_32 (pk_le L.length i (fun h => by omega) (fun _ => ?_))
      rw [nI_add, nI_clamp (n := mk + i) (by omega), nI_clamp (n := i) (by omega), nI_1, e5]
      refine ⟨vp_in_nI (by omega) (by decide), ?_⟩
      cases ho : gP σ 5 (mk + i) with
      | none =>
        rw [ho] at hro
        exact o_n rfl (H _ τ (gw_mono g1 (fun _ h => h) (fun _ h => h) (fun _ h => h) (fun _ h => h) (by omega) (by omega)) g2 ⟨hCn, Or.inr ⟨fun z => Ro_none hro (fits_part z _ (List.getElem_mem hiL)), rfl⟩⟩)
      | some u =>
        rw [ho] at hro
        obtain ⟨f1, f2⟩ := Ro_some hro
        have f3 : Rp τ u L[i] := Rp_ext (gw_ext g1) f2
        refine o_s rfl ⟨vp_in_nI (by omega) (by decide), o_s rfl ?_⟩
        refine ⟨ar_R g3, by rw [ar_L g3]; exact vp_in_nI (by omega) (by omega), Rp_T f3, ?_⟩
        refine ih (i + 1) _ (by omega) (gw_wPd g1 (Nat.le_refl _) b4) g2 g3 (fun j y hj hy => ?_)
        by_cases e : j = i
        · subst e
          rw [List.getElem?_eq_getElem hiL] at hy
          cases hy
          exact ⟨f1, u, wP_at _ _ _ _, f2⟩
        · obtain ⟨p1, p2, p3, p4⟩ := g4 j y (by omega) hy
          exact ⟨p1, p2, by rw [wP_ne (fun z => e z.2)]; exact p3, p4⟩
  refine vX2_function ⟨fun z => absurd z (nI_pos (by omega)), fun _ => ?_⟩
  rw [ht, pk_sub (Nat.le_add_right _ _), Nat.add_sub_cancel_left, nI_clamp (n := L.length) (by omega)]
  refine pk_le 1 L.length (fun _ => ⟨nI_pos (by omega), by omega, b1 |> fun h => (by show 1 ≤ gc σ; omega), (by show L.length ≤ gs σ; omega), ?_⟩) (fun h => by omega)
  have g0 : gw [(3, 3)] [] [] [] 0 0 σ (wS σ 3 3 (nI mk)) := gw_wS gw_rfl (by simp) (by omega)
  have g1 := gw_nA (n := L.length) g0 (by show 1 ≤ gc σ; omega) (by show L.length ≤ gs σ; omega) b4
  refine loop L.length 0 _ (by omega) (gw_mono g1 (fun _ h => h) (fun _ h => h) (fun _ h => h) (fun _ h => h) (by omega) (by omega)) ?_ (nA_isA (σ := wS σ 3 3 (nI mk)) b4) (fun j y hj => absurd hj (Nat.not_lt_zero _))
  show gS (wS σ 3 3 (nI mk)) 3 3 = nI mk
  exact wS_at _ _ _ _
end MK
