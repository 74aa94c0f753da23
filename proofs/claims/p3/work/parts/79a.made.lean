/-! ===== the reference: made, joined, fits, store ===== -/
def ent (σ : am_S) (lo at' T n : Nat) (L : List Tm) : Prop := ∀ i y, L[i]? = some y → ∃ p, gA σ 5 (at' + i) = nI p ∧ canF n y ∧ seg σ p y ∧ (p + y.length ≤ T ∧ lo ≤ p)
section MJ
variable {σ τ υ : am_S}
theorem ent_wk {lo a T n f lo2 : Nat} {L : List Tm} (h : ent σ lo a T n L) (g : wk lo2 f σ τ) (h1 : T ≤ lo2) (h2 : a + L.length ≤ f) : ent τ lo a T n L := by
  intro i y hy
  obtain ⟨p, p1, p2, p3, p4⟩ := h i y hy
  have := get_lt hy
  exact ⟨p, by rw [g.2.2.2.1 _ (by omega)]; exact p1, p2, wk_seg g (by omega) p3, p4⟩
theorem ent_wf {lo a T n : Nat} {L : List Tm} (h : ent σ lo a T n L) : ∀ y ∈ L, wf y := fun y hy => by
  obtain ⟨i, hi, e⟩ := List.getElem_of_mem hy
  obtain ⟨p, _, p2, _⟩ := h i y (by rw [List.getElem?_eq_getElem hi, e])
  exact Can_wf ⟨n, p2⟩
theorem ent_can {lo a T n : Nat} {L : List Tm} (h : ent σ lo a T n L) : ∀ y ∈ L, canF n y := fun y hy => by
  obtain ⟨i, hi, e⟩ := List.getElem_of_mem hy
  obtain ⟨p, _, p2, _⟩ := h i y (by rw [List.getElem?_eq_getElem hi, e])
  exact p2
theorem ent_flen {lo a T n : Nat} {L : List Tm} (h : ent σ lo a T n L) : L.flatten.length ≤ L.length * T := by
  have : ∀ y ∈ L, y.length ≤ T := fun y hy => by
    obtain ⟨i, hi, e⟩ := List.getElem_of_mem hy
    obtain ⟨p, _, _, _, p4⟩ := h i y (by rw [List.getElem?_eq_getElem hi, e])
    omega
  clear h
  induction L with
  | nil => simp
  | cons x L ih =>
    have h1 := this x List.mem_cons_self
    have h2 := ih fun y hy => this y (List.mem_cons_of_mem _ hy)
    rw [List.flatten_cons, List.length_append, List.length_cons, Nat.succ_mul]
    omega
theorem m_put {l d : Nat} {v : Int32} {Q : Unit → am_S → Prop} (hl : gS σ 0 7 = nI l) (h : l < 20000) (H : Q () (wS (wA σ 5 l v) 0 7 (nI (l + 1)))) : am_K ru am_Lm IX11_put (d + 1) [.ref 0, .int v] σ Q := by
  refine vX11_put ?_
  rw [hl, nI_1, nI_clamp (n := l) (by omega)]
  exact pk_le 20000 l (fun h => by omega) (fun _ => ⟨vp_in_nI h (by decide), H⟩)
def md (b T : Nat) (x : Tm) (v : Int32) (τ : am_S) : Prop := (b = 0 ∧ T + x.length ≤ 60000 ∧ gS τ 0 5 = 0 ∧ gS τ 0 4 = nI (T + x.length) ∧ v = nI T ∧ seg τ T x) ∨ ((b = 1 ∨ 60000 < T + x.length) ∧ gS τ 0 5 = 1 ∧ gS τ 0 4 = nI T)
theorem m_made2 {lo k a f T b n d : Nat} {L : List Tm} {Q : Int32 → am_S → Prop} (he : ent σ lo f T n L) (hf : f + L.length ≤ 20000) (hl : gS σ 0 7 = nI (f + L.length)) (hT : gS σ 0 4 = nI T) (hT2 : T ≤ 61000) (hb : gS σ 0 5 = nI b) (hb1 : b ≤ 1) (H : ∀ v τ, wk T f σ τ → gS τ 0 7 = nI f → md b T (node k a L) v τ → Q v τ) : ∀ m i τ, b = 0 → T + (node k a L).length ≤ 60000 → i + m = L.length → wk T f σ τ → gS τ 0 7 = nI (f + L.length) → gS τ 0 5 = 0 → gS τ 0 4 = nI (T + 1 + off L i) → gA τ 1 T = nI k → gA τ 2 T = nI a → gA τ 3 T = nI L.length → seg τ (T + 1) (L.take i).flatten → gA τ 5 = gA σ 5 → am_X ri am_Lm IX11_made (d + 2) 99 [some (.ref 0), some (.int (nI k)), some (.int (nI a)), some (.int (nI f)), some (.int (nI (1 + L.flatten.length))), some (.int (nI T)), some (.int (nI (f + i)))] [] τ Q := by
  have hw := ent_wf he
  have hfl := ent_flen he
  have hfl2 : L.flatten.length ≤ 1220000000 := Nat.le_trans hfl (Nat.le_trans (Nat.mul_le_mul (show L.length ≤ 20000 by omega) hT2) (by decide))
  clear hfl
  have hnl := node_len k a L
  intro m
  induction m with
  | zero =>
    intro i τ hb0 hle hi g1 g2 g3 g4 g5 g6 g7 g8 g9
    have ei : i = L.length := by omega
    subst ei
    refine vX11_made_99 ?_
    rw [g2, g4, nI_clamp (n := T) (by omega)]
    refine pk_le (f + L.length) (f + L.length) (fun _ => ⟨vp_in_nI (by omega) (by decide), ?_⟩) (fun h => by omega)
    have eo : off L L.length = L.flatten.length := by unfold off; rw [List.take_length]
    rw [List.take_length] at g8
    rw [pk_sub (by omega), eo, show T + 1 + L.flatten.length - T = (node k a L).length by omega]
    refine H _ _ (wk_S (wk_A g1 (by omega) (by omega) (Nat.le_refl _)) (by simp)) (wS_at _ _ _ _) (Or.inl ⟨hb0, hle, ?_, ?_, rfl, ?_⟩)
    · rw [wS_ne (by omega)]; exact g3
    · rw [wS_ne (by omega)]
      show gS τ 0 4 = _
      rw [g4, eo, show T + 1 + L.flatten.length = T + (node k a L).length by omega]
    · rw [seg_node hw]
      refine ⟨?_, ?_, ?_, ?_, ?_⟩
      · show gA (wA τ 4 T _) 1 T = _
        rw [wA_ne (by omega)]; exact g5
      · show gA (wA τ 4 T _) 2 T = _
        rw [wA_ne (by omega)]; exact g6
      · show gA (wA τ 4 T _) 3 T = _
        rw [wA_ne (by omega)]; exact g7
      · exact wA_at _ _ _ _
      · refine seg_move (fun q h1 h4 j hj => ?_) g8
        show gA (wA τ 4 T _) q (T + 1 + j) = _
        rw [wA_ne (by omega)]
  | succ m ih =>
    intro i τ hb0 hle hi g1 g2 g3 g4 g5 g6 g7 g8 g9
    have hiL : i < L.length := by omega
    obtain ⟨p, p1, p2, p3, p4⟩ := he i _ (List.getElem?_eq_getElem hiL)
    have hwi := hw _ (List.getElem_mem hiL)
    have hlen := wf_pos hwi
    have p5 := wk_seg g1 p4.1 p3
    have o1 := off_s hiL
    have o2 := off_le L (i + 1)
    refine vX11_made_99 ?_
    rw [g2, g4, nI_clamp (n := f + i) (by omega), g9, p1]
    refine pk_le (f + L.length) (f + i) (fun h => by omega) (fun _ => ⟨vp_in_nI (by omega) (by decide), ?_⟩)
    refine m_copy (d := d) hwi p5 (by omega) (by omega) (Or.inl (by omega)) (fun υ c1 c2 => ?_)
    have c3 := cw_seg c1 (p := p) (x := L[i]) (Or.inl (by omega)) p5
    have c5 : gA υ 5 = gA σ 5 := by rw [c1.2.1 5 (by simp)]; exact g9
    have c6 : gS υ = gS τ := c1.1
    rw [c6, c5, p1, g4, nI_1, nI_clamp (n := p) (by omega), (seg_kd hwi c3).2.2.2, nI_add]
    refine ⟨vp_in_nI (by omega) (by decide), vp_in_nI (by omega) (by decide), ?_⟩
    rw [show T + 1 + off L i + L[i].length = T + 1 + off L (i + 1) by omega, Nat.add_assoc f i 1]
    have c7 : ∀ q, gA υ q T = gA τ q T := fun q => c1.2.2.1 q T (by omega)
    refine ih (i + 1) _ hb0 hle (by omega) (wk_S (wk_trans g1 (wk_mono (cw_wk (f := f) c1) (by omega) (Nat.le_refl _))) (by simp)) ?_ ?_ (wS_at _ _ _ _) ?_ ?_ ?_ ?_ c5
    · rw [wS_ne (by omega), c6]; exact g2
    · rw [wS_ne (by omega), c6]; exact g3
    · show gA υ 1 T = _
      rw [c7]; exact g5
    · show gA υ 2 T = _
      rw [c7]; exact g6
    · show gA υ 3 T = _
      rw [c7]; exact g7
    · show seg (wS υ 0 4 _) (T + 1) _
      rw [take_snoc hiL, List.flatten_append, seg_app (trees_flat fun y hy => hw y (List.mem_of_mem_take hy))]
      constructor
      · refine seg_move (fun q h1 h4 j hj => ?_) g8
        show gA υ q (T + 1 + j) = _
        refine c1.2.2.1 q _ ?_
        unfold off
        omega
      · simp only [List.flatten_cons, List.flatten_nil, List.append_nil]
        exact seg_A (σ := υ) rfl c2
end MJ
