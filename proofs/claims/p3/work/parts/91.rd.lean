/-! ===== reading: what is common ===== -/
abbrev PR : Type := Nat ⊕ (Nat × Tm)
def huge : Tm := node 3 0 (List.replicate 41 (node 1 0 []))
theorem huge_can : Can huge := by
  refine Can_mk (Or.inr (Or.inr (Or.inr ⟨Or.inl rfl, rfl, by decide, ?_, fun y hy => ?_⟩))) fun y hy => ?_
  · refine List.pairwise_replicate.mpr (Or.inr (tlt_irr _))
  · rw [(List.mem_replicate.mp hy).2]
    decide
  · rw [(List.mem_replicate.mp hy).2]
    exact Can_mk (Or.inr (Or.inl ⟨rfl, by omega, rfl⟩)) (by simp)
theorem huge_fits : ¬ fits huge := fun h => absurd h.1 (by decide)
theorem Ro_huge {σ : am_S} : Ro σ none huge := ⟨huge_can, Or.inr ⟨huge_fits, rfl⟩⟩
theorem fl1_le {k : Nat} {x : Tm} (h : wf x) : (fl1 k x).length ≤ x.length := by
  by_cases e : kd x = k
  · rw [fl1_eq e]
    have h1 := (wf_pts h).1
    have h2 := (wf_pts h).2.2
    rcases Nat.eq_zero_or_pos (pts x).length with h0 | h0
    · omega
    · have := flat_get h1 (i := (pts x).length - 1) (by omega)
      have := wf_pos (h1 (pts x)[(pts x).length - 1] (List.getElem_mem (by omega)))
      omega
  · rw [fl1_ne e]
    exact wf_pos h
theorem fl1_flen {k : Nat} {x : Tm} (h : wf x) : (fl1 k x).flatten.length ≤ x.length := by
  by_cases e : kd x = k
  · rw [fl1_eq e]
    have h2 := (wf_pts h).2.2
    omega
  · rw [fl1_ne e]
    simp
theorem flK_le {k : Nat} : ∀ {xs : List Tm}, (∀ x ∈ xs, wf x) → (flK k xs).length ≤ xs.flatten.length ∧ (flK k xs).flatten.length ≤ xs.flatten.length
  | [], _ => by simp [flK]
  | x :: xs, h => by
    have h1 := fl1_le (k := k) (h x List.mem_cons_self)
    have h2 := fl1_flen (k := k) (h x List.mem_cons_self)
    have h3 := flK_le (k := k) fun y hy => h y (List.mem_cons_of_mem _ hy)
    rw [show flK k (x :: xs) = fl1 k x ++ flK k xs from List.flatMap_cons, List.flatten_append, List.length_append, List.length_append, List.flatten_cons, List.length_append]
    omega
theorem join_len {k : Nat} (hk : k = 3 ∨ k = 4) {xs : List Tm} (h : ∀ x ∈ xs, Can x) (hn : 2 ≤ xs.length) : (joinT k xs).length ≤ 1 + xs.flatten.length := by
  rw [joinT_two hk h hn, node_len, perm_flen (srt_perm _)]
  have := (flK_le (k := k) fun x hx => Can_wf (h x hx)).2
  omega
/-! the letters -/
def lts (σ : am_S) : Prop := (∀ i, i < 22 → ∃ t, gP σ 4 i = some t ∧ Rp σ t (node 0 i [])) ∧ (∀ i, i < 5 → ∃ t, gP σ 4 (22 + i) = some t ∧ Rp σ t (node 1 i []))
theorem lts_gw {S : List (Nat × Nat)} {A J P : List Nat} {c s : Nat} {σ τ : am_S} (h : lts σ) (g : gw S A J P c s σ τ) (hP : 4 ∉ P) : lts τ := by
  have e : gP τ 4 = gP σ 4 := gw_P g (by omega) hP
  refine ⟨fun i hi => ?_, fun i hi => ?_⟩
  · obtain ⟨t, t1, t2⟩ := h.1 i hi
    exact ⟨t, by rw [e]; exact t1, Rp_ext (gw_ext g) t2⟩
  · obtain ⟨t, t1, t2⟩ := h.2 i hi
    exact ⟨t, by rw [e]; exact t1, Rp_ext (gw_ext g) t2⟩
theorem can_v {i : Nat} (h : i < 22) : Can (node 0 i []) := Can_mk (Or.inl ⟨rfl, h, rfl⟩) (by simp)
theorem can_c {i : Nat} (h : i < 5) : Can (node 1 i []) := Can_mk (Or.inr (Or.inl ⟨rfl, h, rfl⟩)) (by simp)
theorem fits_1 (k a : Nat) : fits (node k a []) := by
  refine fits_node.mpr ⟨by simp, by simp, by simp⟩
theorem x_variable {σ : am_S} {i d : Nat} {Q : Option Nat → am_S → Prop} (hl : lts σ) (hi : i < 22) (H : ∀ o, Ro σ o (node 0 i []) → Q o σ) : am_K rn am_Lx IX2_variable (d + 1) [.ref 3, .int (nI i)] σ Q := by
  obtain ⟨t, t1, t2⟩ := hl.1 i hi
  refine vX2_variable ⟨fun z => absurd z (nI_pos (by omega)), fun _ => pk_le 22 i (fun h => by omega) (fun _ => ⟨vp_in_nI (by omega) (by decide), ?_⟩)⟩
  rw [nI_clamp (n := i) (by omega)]
  exact o_s t1 (H _ ⟨can_v hi, Or.inl ⟨fits_1 _ _, t, rfl, t2⟩⟩)
theorem x_constant {σ : am_S} {i d : Nat} {Q : Option Nat → am_S → Prop} (hl : lts σ) (hi : i < 5) (H : ∀ o, Ro σ o (node 1 i []) → Q o σ) : am_K rn am_Lx IX2_constant (d + 1) [.ref 3, .int (nI i)] σ Q := by
  obtain ⟨t, t1, t2⟩ := hl.2 i hi
  refine vX2_constant ⟨fun z => absurd z (nI_pos (by omega)), fun _ => pk_le 5 i (fun h => by omega) (fun _ => ?_)⟩
  rw [show (22 : Int32) + nI i = nI (22 + i) from nI_add 22 i, nI_clamp (n := 22 + i) (by omega)]
  exact ⟨vp_in_nI (by omega) (by decide), o_s t1 (H _ ⟨can_c hi, Or.inl ⟨fits_1 _ _, t, rfl, t2⟩⟩)⟩
/-! the class's state -/
def XR (bs : List Nat) (σ : am_S) (p o mk : Nat) : Prop := Tx bs σ ∧ gS σ 7 3 = nI p ∧ gS σ 7 4 = nI o ∧ gS σ 7 5 = -1 ∧ gS σ 3 3 = nI mk ∧ lts σ
abbrev xF (k : Nat) (σ τ : am_S) : Prop := gw [(3, 3), (7, 3), (7, 4), (7, 5)] [] [] [5, 6] (2 * k) (13 * k) σ τ
def stB (mk : Nat) (σ τ : am_S) : Prop := ∀ i, i < mk → gP τ 5 i = gP σ 5 i
def xPost (bs : List Nat) (a b o p mk : Nat) (σ : am_S) (Q : Option Nat → am_S → Prop) (R : PR) : Prop := match R with
  | .inl e => ∀ τ, xF (3 * (e - p) + b) σ τ → gS τ 7 5 = nI e → gS τ 3 3 = nI mk → stB mk σ τ → Q none τ
  | .inr (p', x) => ∀ ov τ, xF (3 * (p' - p) - a) σ τ → XR bs τ p' o mk → stB mk σ τ → Ro τ ov x → Q ov τ
def XS (I : am_I) (dd a b : Nat) (bs : List Nat) (o p : Nat) (R : PR) : Prop := ∀ (σ : am_S) (mk d : Nat) (Q : Option Nat → am_S → Prop), XR bs σ p o mk → mk ≤ p → bud (2 * (3 * (bs.length - p) + b)) (13 * (3 * (bs.length - p) + b)) σ → xPost bs a b o p mk σ Q R → am_K rn am_Lx I (d + dd) [.ref 7] σ Q
/-! the reference's state -/
def MR (bs : List Nat) (σ : am_S) (p o f T : Nat) : Prop := Tm' bs σ ∧ gS σ 0 10 = nI p ∧ gS σ 0 11 = nI o ∧ gS σ 0 12 = 0 ∧ gS σ 0 7 = nI f ∧ gS σ 0 4 = nI T ∧ gS σ 0 5 = nI 0
def wr (lo f : Nat) (σ τ : am_S) : Prop := (∀ n k, (n, k) ∉ [(0, 4), (0, 5), (0, 7), (0, 10), (0, 11), (0, 12)] → gS τ n k = gS σ n k) ∧ (∀ n, n ∉ [1, 2, 3, 4, 5] → gA τ n = gA σ n) ∧ (∀ n, 1 ≤ n → n ≤ 4 → ∀ i, i < lo → gA τ n i = gA σ n i) ∧ (∀ i, i < f → gA τ 5 i = gA σ 5 i) ∧ gJ τ = gJ σ ∧ gP τ = gP σ ∧ gQ τ = gQ σ ∧ τ.2 = σ.2
section WR
variable {σ τ υ : am_S} {lo f : Nat}
theorem wr_rfl : wr lo f σ σ := ⟨fun _ _ _ => rfl, fun _ _ => rfl, fun _ _ _ _ _ => rfl, fun _ _ => rfl, rfl, rfl, rfl, rfl⟩
theorem wr_trans (h : wr lo f σ τ) (g : wr lo f τ υ) : wr lo f σ υ := by
  obtain ⟨h1, h2, h3, h4, h5, h6, h7, h8⟩ := h
  obtain ⟨g1, g2, g3, g4, g5, g6, g7, g8⟩ := g
  exact ⟨fun n k z => (g1 n k z).trans (h1 n k z), fun n z => (g2 n z).trans (h2 n z), fun n a b i z => (g3 n a b i z).trans (h3 n a b i z), fun i z => (g4 i z).trans (h4 i z), g5.trans h5, g6.trans h6, g7.trans h7, g8.trans h8⟩
theorem wr_mono {lo' f' : Nat} (h : wr lo f σ τ) (h1 : lo' ≤ lo) (h2 : f' ≤ f) : wr lo' f' σ τ := ⟨h.1, h.2.1, fun n a b i z => h.2.2.1 n a b i (by omega), fun i z => h.2.2.2.1 i (by omega), h.2.2.2.2⟩
theorem wr_wk (h : wk lo f σ τ) : wr lo f σ τ := ⟨fun n k z => h.1 n k (fun y => z (by simp at y ⊢; omega)), h.2⟩
theorem wr_S {k : Nat} {v : Int32} (h : wr lo f σ τ) (hk : k = 4 ∨ k = 5 ∨ k = 7 ∨ k = 10 ∨ k = 11 ∨ k = 12) : wr lo f σ (wS τ 0 k v) := by
  obtain ⟨h1, h2, h3, h4, h5⟩ := h
  refine ⟨fun n j z => ?_, h2, h3, h4, h5⟩
  rw [← h1 n j z]
  refine wS_ne fun e => z ?_
  rw [e.1, e.2]
  rcases hk with h | h | h | h | h | h <;> simp [h]
theorem wr_fr10 (h : fr [(0, 10)] [] [] [] σ τ) : wr lo f σ τ := by
  obtain ⟨h1, h2, h3, h4, h5, h6⟩ := h
  exact ⟨fun n k z => h1 n k (fun y => z (by simp at y ⊢; omega)), fun n _ => h2 n (by simp), fun n _ _ i _ => by rw [h2 n (by simp)], fun i _ => by rw [h2 5 (by simp)], funext fun n => h3 n (by simp), funext fun n => h4 n (by simp), h5, h6⟩
theorem wr_A {n i : Nat} {v : Int32} (h : wr lo f σ τ) (h1 : 1 ≤ n) (h4 : n ≤ 4) (hi : lo ≤ i) : wr lo f σ (wA τ n i v) := by
  obtain ⟨a, b, c, d, e⟩ := h
  refine ⟨a, fun m hm => ?_, fun m p q j hj => ?_, fun j hj => ?_, e⟩
  · rw [← b m hm]
    exact wA_arr fun z => hm (by rw [z]; simp; omega)
  · rw [← c m p q j hj]
    exact wA_ne (by omega)
  · rw [← d j hj]
    exact wA_ne (by omega)
theorem wr_5 {i : Nat} {v : Int32} (h : wr lo f σ τ) (hi : f ≤ i) : wr lo f σ (wA τ 5 i v) := by
  obtain ⟨a, b, c, d, e⟩ := h
  refine ⟨a, fun m hm => ?_, fun m p q j hj => ?_, fun j hj => ?_, e⟩
  · rw [← b m hm]
    exact wA_arr fun z => hm (by rw [z]; simp)
  · rw [← c m p q j hj]
    exact wA_ne (by omega)
  · rw [← d j hj]
    exact wA_ne (by omega)
theorem wr_seg {p : Nat} {x : Tm} (h : wr lo f σ τ) (hp : p + x.length ≤ lo) (g : seg σ p x) : seg τ p x := seg_move (fun a h1 h4 i hi => h.2.2.1 a h1 h4 _ (by omega)) g
theorem wr_ent {a T n q : Nat} {L : List Tm} (h : ent σ q a T n L) (g : wr lo f σ τ) (h1 : T ≤ lo) (h2 : a + L.length ≤ f) : ent τ q a T n L := by
  intro i y hy
  obtain ⟨p, p1, p2, p3, p4⟩ := h i y hy
  have := get_lt hy
  exact ⟨p, by rw [g.2.2.2.1 _ (by omega)]; exact p1, p2, wr_seg g (by omega) p3, p4⟩
theorem ent_T {a T T' n q : Nat} {L : List Tm} (h : ent σ q a T n L) (hT : T ≤ T') : ent σ q a T' n L := by
  intro i y hy
  obtain ⟨p, p1, p2, p3, p4, p5⟩ := h i y hy
  exact ⟨p, p1, p2, p3, by omega, p5⟩
theorem wr_tm {bs : List Nat} (h : Tm' bs σ) (g : wr lo f σ τ) : Tm' bs τ := ⟨by rw [g.1 0 9 (by simp)]; exact h.1, fun i b hb => by rw [g.2.1 6 (by simp)]; exact h.2 i b hb⟩
end WR
def mPost (bs : List Nat) (a kk o p f T : Nat) (σ : am_S) (Q : Int32 → am_S → Prop) (R : PR) : Prop := match R with
  | .inl e => ∀ v τ g, wr 17280 0 σ τ → gS τ 0 10 = nI e → gS τ 0 12 = 1 → gS τ 0 7 = nI g → g ≤ e + kk → Q v τ
  | .inr (p', x) => ∀ q τ T', wr T f σ τ → MR bs τ p' o f T' → T ≤ T' → T' + 64 * a ≤ T + 132 * (p' - p) → seg τ q x → 17280 ≤ q → q + x.length ≤ T' → Q (nI q) τ
def MS (I : am_I) (dd a kk : Nat) (bs : List Nat) (o p : Nat) (R : PR) : Prop := ∀ (σ : am_S) (f T d : Nat) (Q : Int32 → am_S → Prop), MR bs σ p o f T → f ≤ p → 17280 ≤ T → T ≤ 17280 + 132 * p → mPost bs a kk o p f T σ Q R → am_K ri am_Lm I (d + dd) [.ref 0] σ Q
def RF (bs : List Nat) (p : Nat) (R : PR) : Prop := match R with
  | .inl e => p ≤ e ∧ e ≤ bs.length ∧ skp bs e = e
  | .inr (p', x) => p < p' ∧ p' ≤ bs.length ∧ Can x ∧ x.length + p ≤ p'
def jnt (I J : am_I) (dx dm a b kk : Nat) (bs : List Nat) (o p : Nat) : Prop := ∃ R, RF bs p R ∧ XS I dx a b bs o p R ∧ MS J dm a kk bs o p R
theorem XR_gw {bs : List Nat} {σ τ : am_S} {p o mk p' o' mk' k : Nat} (h : XR bs σ p o mk) (g : xF k σ τ) (h3 : gS τ 7 3 = nI p') (h4 : gS τ 7 4 = nI o') (h5 : gS τ 7 5 = -1) (h6 : gS τ 3 3 = nI mk') : XR bs τ p' o' mk' := ⟨⟨by rw [gw_S g (by omega) (by simp)]; exact h.1.1, fun i b hb => by rw [gw_A g (by simp)]; exact h.1.2 i b hb⟩, h3, h4, h5, h6, lts_gw h.2.2.2.2.2 g (by simp)⟩
theorem xF_fr {σ τ : am_S} (h : fr [(7, 3)] [] [] [] σ τ) : xF 0 σ τ := gw_mono (gw_fr h (by simp) (by simp)) (by simp) (by simp) (by simp) (by simp) (Nat.le_refl _) (Nat.le_refl _)
theorem xF_trans {σ τ υ : am_S} {k l : Nat} (h : xF k σ τ) (g : xF l τ υ) : xF (k + l) σ υ := by
  have := gw_trans h g
  exact gw_mono this (fun _ h => h) (fun _ h => h) (fun _ h => h) (fun _ h => h) (by omega) (by omega)
theorem xF_mono {σ τ : am_S} {k l : Nat} (h : xF k σ τ) (hl : k ≤ l) : xF l σ τ := gw_mono h (fun _ h => h) (fun _ h => h) (fun _ h => h) (fun _ h => h) (by omega) (by omega)
theorem bud_xF {σ τ : am_S} {k l : Nat} (h : bud (2 * (k + l)) (13 * (k + l)) σ) (g : xF k σ τ) : bud (2 * l) (13 * l) τ := bud_gw (c := 2 * k) (s := 13 * k) (by rw [show 2 * k + 2 * l = 2 * (k + l) by omega, show 13 * k + 13 * l = 13 * (k + l) by omega]; exact h) g
theorem stB_rfl {mk : Nat} {σ : am_S} : stB mk σ σ := fun _ _ => rfl
theorem stB_trans {mk : Nat} {σ τ υ : am_S} (h : stB mk σ τ) (g : stB mk τ υ) : stB mk σ υ := fun i hi => (g i hi).trans (h i hi)
theorem stB_mono {mk mk' : Nat} {σ τ : am_S} (h : stB mk σ τ) (hm : mk' ≤ mk) : stB mk' σ τ := fun i hi => h i (by omega)
theorem i_m1_neg : ¬ (0 : Int32) ≤ -1 := by decide
