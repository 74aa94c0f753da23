/-! ===== the reference: unify, bases, base, set ===== -/
/-- the reference's latest unifiers -/
def uM (k : Nat) (U : List (Tm × Int)) (τ : am_S) : Prop := gS τ 0 39 = nI k ∧ um U τ ∧ mbB U.length (uB U) τ ∧ (∀ b, b < (uB U).length → (gA τ 30 b).toInt = rl (vn U) (grB (uB U) (vn U) U.length b)) ∧ gS τ 0 38 = nI (usf (grB (uB U) (vn U) U.length) (uB U).length) ∧ gS τ 0 37 = nI (uG U).length ∧ ∀ i s, (uG U)[i]? = some s → gA τ 26 i = nI s
abbrev umW (σ τ : am_S) : Prop := mX [(0, 27), (0, 36), (0, 37), (0, 38), (0, 39), (0, 40), (0, 41), (0, 47), (0, 48)] [20, 22, 23, 24, 25, 26, 27, 28, 29, 30] 16640 17280 σ τ
section UM
variable {σ τ : am_S} {V : Sv} {U : List (Tm × Int)} {k d : Nat}
theorem um_mX {S : List (Nat × Nat)} {A : List Nat} (h : um U σ) (g : mX S A 640 640 σ τ) (h1 : (0, 40) ∉ S) (h2 : (0, 41) ∉ S) (h3 : 22 ∉ A) (h4 : 23 ∉ A) : um U τ := by
  refine ⟨by rw [g.1 0 40 h1]; exact h.1, by rw [g.1 0 41 h2]; exact h.2.1, fun j q hq => ?_⟩
  obtain ⟨a1, a2, a3⟩ := h.2.2 j q hq
  rw [g.2.1 22 (by omega) h3, g.2.1 23 (by omega) h4]
  exact ⟨a1, a2, fun z => mX_seg g (Or.inr (by omega)) (a3 z)⟩
theorem mbB_mX {n : Nat} {G : List (List Nat)} {S : List (Nat × Nat)} {A : List Nat} {lo hi : Nat} (h : mbB n G σ) (g : mX S A lo hi σ τ) (h1 : (0, 36) ∉ S) (h3 : 24 ∉ A) (h4 : 25 ∉ A) : mbB n G τ := by
  refine ⟨by rw [g.1 0 36 h1]; exact h.1, h.2.1, fun i hi => ?_⟩
  rw [g.2.1 24 (by omega) h3, g.2.1 25 (by omega) h4]
  exact h.2.2 i hi
theorem filt_s {G : List Nat} (h : G.Pairwise (· < ·)) (b : Nat) : G.filter (fun s => decide (s < b + 1)) = G.filter (fun s => decide (s < b)) ++ (if b ∈ G then [b] else []) := by
  refine so_eq (r := (· < ·)) (fun a => Nat.lt_irrefl a) (fun a b c => Nat.lt_trans) (List.Pairwise.filter _ h) ?_ (fun x hx => ?_) (fun x hx => ?_)
  · refine List.pairwise_append.mpr ⟨List.Pairwise.filter _ h, by split <;> simp, fun x hx y hy => ?_⟩
    have h1 := (List.mem_filter.mp hx).2
    split at hy
    · rw [List.mem_singleton.mp hy]; simpa using h1
    · simp at hy
  · obtain ⟨h1, h2⟩ := List.mem_filter.mp hx
    rw [List.mem_append]
    by_cases e : x = b
    · subst e; right; rw [if_pos h1]; simp
    · left
      exact List.mem_filter.mpr ⟨h1, by simp at h2 ⊢; omega⟩
  · rcases List.mem_append.mp hx with h1 | h1
    · obtain ⟨a1, a2⟩ := List.mem_filter.mp h1
      exact List.mem_filter.mpr ⟨a1, by simp at a2 ⊢; omega⟩
    · split at h1
      · rename_i hb
        rw [List.mem_singleton.mp h1]
        exact List.mem_filter.mpr ⟨hb, by simp⟩
      · simp at h1
theorem uG_iff (hU : okU k U) {s : Nat} : s ∈ uG U ↔ gdS (covB (uB U) (vn U)) (grB (uB U) (vn U) U.length) (uB U).length (allB (vn U)) (allL (vn U) U.length) s := by
  have h6 := hU.2.1
  have hn := hU.1
  refine gls_mem ?_ ?_ fun c _ => ?_
  · have := bits_lt (a := allB (vn U)) (k := 6) fun j hj => by have := (allB_tb _ j).mp hj; omega
    omega
  · have := bits_lt (a := allL (vn U) U.length) (k := 16) fun j hj => by have := (allL_tb hn j).mp hj; omega
    omega
  · rcases grf_or ((uB U).getD c []) (vn U) (U.length - vn U) with e | e | ⟨g, e, _⟩
    · exact Or.inl e
    · exact Or.inr (by show -1 ≤ grf _ _ _; rw [e]; decide)
    · exact Or.inr (by show -1 ≤ grf _ _ _; rw [e]; omega)
theorem uG_0 (hU : okU k U) (hn : 1 ≤ U.length) : 0 ∉ uG U := fun h => by
  have g := (uG_iff hU).mp h
  have hvn := vn_le U
  by_cases hv : 0 < vn U
  · obtain ⟨c, _, c2, _⟩ := g.2.2.2.2 0 ((allB_tb _ 0).mpr hv)
    simp at c2
  · obtain ⟨c, _, c2, _⟩ := g.2.2.2.1 (vn U) ((allL_tb hU.1 _).mpr ⟨Nat.le_refl _, by omega⟩)
    simp at c2
/-- behind the bases: grounds and good sets -/
theorem m_sets {l1 l2 l3 l4 l5 l6 l7 : Int32} {Q : Int32 → am_S → Prop} (hU : okU k U) (hn1 : 1 ≤ U.length) (hB : (uB U).length ≤ 16) (h39 : gS σ 0 39 = nI k) (hu : um U σ) (hb : mbB U.length (uB U) σ) (h37 : gS σ 0 37 = nI 0) (H : ∀ τ, mX [(0, 37), (0, 38)] [26, 30] 640 640 σ τ → uM k U τ → Q (nI (uG U).length) τ) : am_X ri am_Lm IX11_unify (d + 2) 179 [some (.ref 0), some (.int l1), some (.int l2), some (.int l3), some (.int l4), some (.int l5), some (.int l6), some (.int l7), some (.int (0 : Int32))] [] (wS σ 0 38 (0 : Int32)) Q := by
  have hn := hU.1
  have hv := hU.2.1
  have hvn := vn_le U
  have hS : ∀ x ∈ uB U, sm x ≤ 16 := fun x hx => by have h1 := (sols_sm hx).1; have h2 := (uS_bd hU).1; omega
  have hGs : (uG U).Pairwise (· < ·) := gls_sorted
  have hGl : ∀ s ∈ uG U, s < 2 ^ (uB U).length := fun s hs => gls_lt hs
  have p16 : 2 ^ (uB U).length ≤ 2 ^ 16 := Nat.pow_le_pow_right (by decide) hB
  have hGn : (uG U).length ≤ 2 ^ (uB U).length := gls_len _ _ _
  -- the sets
  have sets : ∀ m b τ, b + m = 2 ^ (uB U).length → 1 ≤ b → mX [(0, 37), (0, 38)] [26, 30] 640 640 σ τ → (∀ c, c < (uB U).length → (gA τ 30 c).toInt = rl (vn U) (grB (uB U) (vn U) U.length c)) → gS τ 0 38 = nI (usf (grB (uB U) (vn U) U.length) (uB U).length) → gS τ 0 37 = nI ((uG U).filter (fun s => decide (s < b))).length → (∀ i s, ((uG U).filter (fun s => decide (s < b)))[i]? = some s → gA τ 26 i = nI s) → am_X ri am_Lm IX11_unify (d + 2) 236 [some (.ref 0), some (.int l1), some (.int l2), some (.int l3), some (.int l4), some (.int l5), some (.int l6), some (.int l7), some (.int (nI b))] [] τ Q := by
    intro m
    induction m with
    | zero =>
      intro b τ hb2 hb1 g1 g2 g3 g4 g5
      obtain rfl : b = 2 ^ (uB U).length := by omega
      have hbt := mbB_mX hb g1 (by decide) (by decide) (by decide)
      have hall : (uG U).filter (fun s => decide (s < 2 ^ (uB U).length)) = uG U := by
        rw [List.filter_eq_self]
        intro s hs
        simpa using hGl s hs
      rw [hall] at g4 g5
      refine vX11_unify_236 ?_
      rw [hbt.1, nx_1shl (by omega), g4]
      refine pk_le (2 ^ (uB U).length) (2 ^ (uB U).length) (fun _ => H τ g1 ⟨by rw [g1.1 0 39 (by decide)]; exact h39, um_mX hu g1 (by decide) (by decide) (by decide) (by decide), hbt, g2, g3, g4, g5⟩) (fun h => by omega)
    | succ m ih =>
      intro b τ hb2 hb1 g1 g2 g3 g4 g5
      have hbt := mbB_mX hb g1 (by decide) (by decide) (by decide)
      have hut := um_mX hu g1 (by decide) (by decide) (by decide) (by decide)
      have hfl : ((uG U).filter (fun s => decide (s < b))).length ≤ (uG U).length := List.length_filter_le _ _
      have nx := ih (b + 1)
      rw [filt_s hGs] at nx
      refine vX11_unify_236 ?_
      rw [hbt.1, nx_1shl (by omega), nI_1]
      refine pk_le (2 ^ (uB U).length) b (fun h => by omega) (fun _ => ?_)
      refine m_isGood (d := d) hut.1 hut.2.1 hvn hn hv hbt hS g2 (by omega) (fun hg => ⟨fun z => absurd z (by decide), fun _ => ?_⟩) (fun hg => ⟨fun _ => ?_, fun z => absurd rfl z⟩)
      · have hbG := (uG_iff hU).mpr hg
        rw [if_pos hbG] at nx
        have hlt : ((uG U).filter (fun s => decide (s < b))).length < (uG U).length := by
          refine Nat.lt_of_le_of_ne hfl fun e => ?_
          have := List.length_filter_eq_length_iff.mp e b hbG
          simp at this
        rw [g4, nI_clamp (n := ((uG U).filter (fun s => decide (s < b))).length) (by omega), nI_1]
        refine ⟨pk_in ((uG U).filter (fun s => decide (s < b))).length 65536 (by omega), ?_⟩
        rw [List.length_append, List.length_singleton] at nx
        refine nx _ (by omega) (by omega) (mX_wS (mX_wA g1 (by decide) (by omega)) (by decide)) (fun c hc => ?_) ?_ (wS_at _ _ _ _) (fun i s hs => ?_)
        · rw [gA_wS, wA_arr (by decide)]; exact g2 c hc
        · rw [wS_ne (by omega), gS_wA]; exact g3
        · rw [gA_wS]
          by_cases e : i = ((uG U).filter (fun s => decide (s < b))).length
          · subst e
            rw [List.getElem?_append_right (Nat.le_refl _), Nat.sub_self] at hs
            cases hs
            exact wA_at _ _ _ _
          · have hi := get_lt hs
            rw [List.length_append, List.length_singleton] at hi
            rw [List.getElem?_append_left (by omega)] at hs
            rw [wA_ne (by omega)]
            exact g5 i s hs
      · rw [if_neg (fun z => hg ((uG_iff hU).mp z)), List.append_nil] at nx
        exact nx τ (by omega) (by omega) g1 g2 g3 g4 g5
  have grs : ∀ m b τ, b + m = (uB U).length → mX [(0, 37), (0, 38)] [26, 30] 640 640 σ τ → gS τ 0 37 = nI 0 → (∀ c, c < b → (gA τ 30 c).toInt = rl (vn U) (grB (uB U) (vn U) U.length c)) → gS τ 0 38 = nI (usf (grB (uB U) (vn U) U.length) b) → am_X ri am_Lm IX11_unify (d + 2) 179 [some (.ref 0), some (.int l1), some (.int l2), some (.int l3), some (.int l4), some (.int l5), some (.int l6), some (.int l7), some (.int (nI b))] [] τ Q := by
    intro m
    induction m with
    | zero =>
      intro b τ hb2 g1 g0 g2 g3
      obtain rfl : b = (uB U).length := by omega
      have hbt := mbB_mX hb g1 (by decide) (by decide) (by decide)
      have h0 : (uG U).filter (fun s => decide (s < 1)) = [] := by
        rw [List.filter_eq_nil_iff]
        intro s hs e
        simp at e
        exact uG_0 hU hn1 (e ▸ hs)
      refine vX11_unify_179 (pk_le (uB U).length (uB U).length (fun _ => ?_) (fun h => by omega) hbt.1 rfl (by omega) (by omega))
      have := sets (2 ^ (uB U).length - 1) 1 τ (by have := Nat.two_pow_pos (uB U).length; omega) (Nat.le_refl _) g1 g2 g3
      rw [h0] at this
      exact this g0 (fun i s hs => by simp at hs)
    | succ m ih =>
      intro b τ hb2 g1 g0 g2 g3
      have hbt := mbB_mX hb g1 (by decide) (by decide) (by decide)
      have hut := um_mX hu g1 (by decide) (by decide) (by decide) (by decide)
      refine vX11_unify_179 (pk_le (uB U).length b (fun h => by omega) (fun _ => ?_) hbt.1 rfl (by omega) (by omega))
      refine m_groundOf (d := d) hut.1 hut.2.1 hvn hn hbt hS (by omega) fun r hr => ⟨pk_in b 16 (by omega), pk_in b 16 (by omega), ?_⟩
      rw [nI_clamp (n := b) (by omega), wA_at, nI_1]
      have nx : ∀ w, w = nI (usf (grB (uB U) (vn U) U.length) (b + 1)) → am_X ri am_Lm IX11_unify (d + 2) 179 [some (.ref 0), some (.int l1), some (.int l2), some (.int l3), some (.int l4), some (.int l5), some (.int l6), some (.int l7), some (.int (nI (b + 1)))] [] (wS (wA τ 30 b r) 0 38 w) Q := fun w hw => by
        refine ih (b + 1) _ (by omega) (mX_wS (mX_wA g1 (by decide) (by omega)) (by decide)) ?_ (fun c hc => ?_) (by rw [wS_at]; exact hw)
        · rw [wS_ne (by omega)]; exact g0
        · rw [gA_wS]
          by_cases e : c = b
          · subst e; rw [wA_at]; exact hr
          · rw [wA_ne (by omega)]; exact g2 c (by omega)
      have hrl : r = -2 ↔ grB (uB U) (vn U) U.length b = -2 := by
        rw [i_eq, hr, show (-2 : Int32).toInt = -2 by decide]
        rcases grf_or ((uB U).getD b []) (vn U) (U.length - vn U) with e | e | ⟨g, e, e1, _⟩
        · rw [show grB (uB U) (vn U) U.length b = -2 from e, rl_neg (by decide)]
        · rw [show grB (uB U) (vn U) U.length b = -1 from e, rl_neg (by decide)]
        · rw [show grB (uB U) (vn U) U.length b = g from e, rl_pos (by omega)]
          omega
      rw [hrl]
      simp only [usf] at nx
      constructor
      · intro z
        rw [if_neg z] at nx
        exact nx _ (by rw [g3, nI_1])
      · intro z
        rw [if_pos z] at nx
        exact nx _ (by rw [g3]; exact nI_add _ 0)
  refine grs (uB U).length 0 _ (by omega) (mX_wS mX_rfl (by decide)) ?_ (fun c hc => absurd hc (Nat.not_lt_zero _)) (wS_at _ _ _ _)
  rw [wS_ne (by omega)]
  exact h37
theorem m_40b (k : Nat) : (40 : Int32) * nI k = nI (40 * k) := by rw [show (40 : Int32) = nI 40 from rfl, pk_mul]
theorem uB_nil : uB [] = [] := by
  apply List.eq_nil_iff_forall_not_mem.mpr
  intro x hx
  have := (sols_mem.mp hx).1
  have h1 := this.2.1
  have h2 := this.2.2.1
  have h3 : uS [] = 0 := rfl
  omega
theorem uG_nil : uG [] = [0] := by
  unfold uG
  rw [uB_nil]
  rfl
theorem m_unify {s t a : Int32} {Q : Int32 → am_S → Prop} (hV : Sm σ V) (hb : ¬ (isSl s ∧ isSl t ∧ (0 ≤ a.toInt ∧ a.toInt ≤ 1)) → Q (-1) σ) (hn : ∀ k l, k < 16 → l < 16 → s = nI k → t = nI l → (0 ≤ a.toInt ∧ a.toInt ≤ 1) → (V k = none ∨ V l = none) → Q (-2) σ) (ht : ∀ k l x y b, k < 16 → l < 16 → s = nI k → t = nI l → V k = some x → V l = some y → b < 2 → a = nI b → ¬ (takP (3 + b) x ∧ takP (3 + b) y) → Q (-3) σ)
    (hF : ∀ k l x y b, k < 16 → l < 16 → s = nI k → t = nI l → V k = some x → V l = some y → b < 2 → a = nI b → takP (3 + b) x → takP (3 + b) y → 16 < (uB (uN (uP (3 + b) x y))).length → ∀ τ, umW σ τ → gS τ 0 37 = nI 0 → Q (-4) τ)
    (hG : ∀ k l x y b, k < 16 → l < 16 → s = nI k → t = nI l → V k = some x → V l = some y → b < 2 → a = nI b → takP (3 + b) x → takP (3 + b) y → (uB (uN (uP (3 + b) x y))).length ≤ 16 → ∀ τ, umW σ τ → uM (3 + b) (uN (uP (3 + b) x y)) τ → Q (nI (uG (uN (uP (3 + b) x y))).length) τ) : am_K ri am_Lm IX11_unify (d + 45) [.ref 0, .int s, .int t, .int a] σ Q := by
  refine vX11_unify (ms_slot (d := d + 42) (fun k hk e => ⟨fun z => absurd z (by decide), fun _ => ?_⟩) (fun h => ⟨fun _ => hb fun z => h z.1, fun z => absurd rfl z⟩))
  refine ms_slot (d := d + 42) (fun l hl e2 => ⟨fun z => absurd z (by decide), fun _ => ?_⟩) (fun h => ⟨fun _ => hb fun z => h z.2.1, fun z => absurd rfl z⟩)
  refine ⟨_, _, m_inI (d := d + 43) (a := 0) (b := 1) j_0 j_1, ?_⟩
  by_cases hs : 0 ≤ a.toInt ∧ a.toInt ≤ 1
  · rw [b01_t hs]
    obtain ⟨b, _, hb1, ea⟩ := i_2 (n := a) (lo := 0) (hi := 1) (by omega) ⟨hs.1, hs.2⟩
    have vl : vp_in t 16 := by rw [e2]; exact vp_in_nI hl (by decide)
    refine ⟨fun _ => ⟨by rw [e]; exact vp_in_nI hk (by decide), ?_⟩, fun z => absurd z (by decide)⟩
    rw [e, e2, nI_clamp (n := k) (by omega), nI_clamp (n := l) (by omega), m_40b, m_40b, ← e2]
    rcases hV k hk with ⟨v1, v2⟩ | ⟨x, v1, v2, hc, hf, hr⟩
    · rw [v2]
      exact ⟨fun _ => hn k l hk hl e e2 hs (Or.inl v1), fun z => absurd rfl z⟩
    rw [v2]
    refine ⟨fun z => absurd z (by decide), fun _ => ⟨vl, ?_⟩⟩
    rcases hV l hl with ⟨w1, w2⟩ | ⟨y, w1, w2, hc2, hf2, hr2⟩
    · rw [w2]
      exact ⟨fun z => absurd rfl z, fun _ => hn k l hk hl e e2 hs (Or.inr w1)⟩
    rw [w2]
    refine ⟨fun _ => ?_, fun z => absurd z (by decide)⟩
    have lx := hf.1
    have ly := hf2.1
    have vx := vb_lt x hc
    have vy := vb_lt y hc2
    have hk34 : 3 + b = 3 ∨ 3 + b = 4 := by omega
    refine m_variablesIn (d := d + 43) (Can_wf hc) (Can_nd x hc) hr (by omega) (m_variablesIn (d := d + 43) (Can_wf hc2) (Can_nd y hc2) hr2 (by omega) ?_)
    have hor : vb x ||| vb y < 2 ^ 22 := or_lt vx vy
    rw [nx_or, ea, show (3 : Int32) = nI 3 from rfl, nI_add, ← ea]
    have o1 : vb x ≤ vb x ||| vb y := Nat.left_le_or
    have o2 : vb y ≤ vb x ||| vb y := Nat.right_le_or
    refine pk_lt 63 (vb x ||| vb y) (fun h => ht k l x y b hk hl e e2 v1 w1 (by omega) ea fun z => ?_) (fun h => ?_)
    · have := or_lt (n := 6) (show vb x < 2 ^ 6 from z.1.1) (show vb y < 2 ^ 6 from z.2.1)
      omega
    refine m_isPlain (d := d + 41) hc hf hr (by omega) hk34 (fun px => ⟨fun z => absurd z (by decide), fun _ => ?_⟩) (fun px => ⟨fun _ => ht k l x y b hk hl e e2 v1 w1 (by omega) ea fun z => px z.1.2, fun z => absurd rfl z⟩)
    refine m_isPlain (d := d + 41) hc2 hf2 hr2 (by omega) hk34 (fun py => ⟨fun _ => ?_, fun z => absurd z (by decide)⟩) (fun py => ⟨fun z => absurd rfl z, fun _ => ht k l x y b hk hl e e2 v1 w1 (by omega) ea fun z => py z.2.2⟩)
    have tx : takP (3 + b) x := ⟨by omega, px⟩
    have ty : takP (3 + b) y := ⟨by omega, py⟩
    have hok := uN_ok hk34 hc hf hc2 hf2 tx ty
    have w0 : mX [(0, 37), (0, 39)] [] 640 640 σ (wS (wS σ 0 37 (0 : Int32)) 0 39 (nI (3 + b))) := mX_wS (mX_wS mX_rfl (by simp)) (by simp)
    refine m_gather (d := d + 2) hk34 hc hf hc2 hf2 tx ty hk hl (mX_seg w0 (by omega) hr) (mX_seg w0 (by omega) hr2) fun τ g1 g2 => ?_
    have w0' : mX [(0, 37), (0, 39)] [] 16640 17280 σ (wS (wS σ 0 37 (0 : Int32)) 0 39 (nI (3 + b))) := mX_wS (mX_wS mX_rfl (by simp)) (by simp)
    have f0 : umW σ τ := mX_trans (mX_mono w0' (by decide) (by decide)) (mX_mono g1 (by decide) (by decide))
    have z37 : gS τ 0 37 = nI 0 := by rw [g1.1 0 37 (by decide), wS_ne (by omega), wS_at]; rfl
    have z39 : gS τ 0 39 = nI (3 + b) := by rw [g1.1 0 39 (by decide), wS_at]
    have fF := hF k l x y b hk hl e e2 v1 w1 (by omega) ea tx ty
    have fG := hG k l x y b hk hl e e2 v1 w1 (by omega) ea tx ty
    generalize uN (uP (3 + b) x y) = U at g2 hok fF fG
    have hn16 := hok.1
    refine ⟨fun hne => ?_, fun heq => ?_⟩
    · have hn1 : 1 ≤ U.length := Nat.pos_of_ne_zero fun z => hne (by rw [z]; rfl)
      have hwt : wt U.length (uw U) τ := fun j hj => by
        have q := uw_get (List.getElem?_eq_getElem hj)
        have q2 := uw_ok hok hj
        refine ⟨?_, q2⟩
        rw [q]
        exact (g2.2.2 j _ (List.getElem?_eq_getElem hj)).1
      refine m_findBases (d := d + 24) (S := uS U) hn16 hn1 hwt (uS_bd hok).2 (fun τ2 h1 h2 h3 => ⟨fun _ => ?_, fun z => absurd z (by decide)⟩) (fun τ2 h1 h2 => ⟨fun z => absurd rfl z, fun _ => ?_⟩)
      · have w2 : mX [(0, 27), (0, 36), (0, 47), (0, 48)] [20, 24, 25] 640 640 τ τ2 := mX_fr h1 (by decide)
        have w2' : mX [(0, 27), (0, 36), (0, 47), (0, 48)] [20, 24, 25] 16640 17280 τ τ2 := mX_fr h1 (by decide)
        refine m_sets (d := d + 43) hok hn1 h2 (by rw [w2.1 0 39 (by decide)]; exact z39) (um_mX g2 w2 (by decide) (by decide) (by decide) (by decide)) h3 (by rw [w2.1 0 37 (by decide)]; exact z37) fun τ3 m1 m2 => fG h2 τ3 (mX_trans f0 (mX_trans (mX_mono w2' (by decide) (by decide)) ?_)) m2
        exact mX_mono (⟨m1.1, m1.2.1, fun n i a _ => m1.2.2.1 n i a (by omega), m1.2.2.2⟩ : mX [(0, 37), (0, 38)] [26, 30] 16640 17280 τ2 τ3) (by decide) (by decide)
      · have w2' : mX [(0, 27), (0, 36), (0, 47), (0, 48)] [20, 24, 25] 16640 17280 τ τ2 := mX_fr h1 (by decide)
        exact fF h2 τ2 (mX_trans f0 (mX_mono w2' (by decide) (by decide))) (by rw [w2'.1 0 37 (by decide)]; exact z37)
    · have hU0 : U = [] := List.length_eq_zero_iff.mp ((nx_z (by omega)).mp heq)
      subst hU0
      refine ⟨pk_in 0 65536 (by omega), ?_⟩
      have e1 : (1 : Int32) = nI (uG []).length := by rw [uG_nil]; rfl
      have fin : umW σ (wS (wA (wS (wS τ 0 36 (0 : Int32)) 0 38 (0 : Int32)) 26 ((0 : Int32)).toNatClampNeg (0 : Int32)) 0 37 (1 : Int32)) := mX_wS (mX_wA (mX_wS (mX_wS f0 (by decide)) (by decide)) (by decide) (by omega)) (by decide)
      have r := fG (by rw [uB_nil]; simp) _ fin
      rw [← e1] at r
      refine r ⟨?_, ?_, ⟨?_, by rw [uB_nil]; simp, fun i hi => ?_⟩, fun c hc => ?_, ?_, ?_, fun i s hs => ?_⟩
      · rw [wS_ne (by omega), gS_wA, wS_ne (by omega), wS_ne (by omega)]; exact z39
      · refine um_mX (σ := τ) (S := [(0, 36), (0, 37), (0, 38)]) (A := [26]) g2 (mX_wS (mX_wA (mX_wS (mX_wS mX_rfl (by decide)) (by decide)) (by decide) (by omega)) (by decide)) (by decide) (by decide) (by decide) (by decide)
      · rw [wS_ne (by omega), gS_wA, wS_ne (by omega), wS_at, uB_nil]; rfl
      · rw [uB_nil] at hi; simp at hi
      · rw [uB_nil] at hc; simp at hc
      · rw [wS_ne (by omega), gS_wA, wS_at, uB_nil]; rfl
      · rw [wS_at]; exact e1
      · rw [uG_nil] at hs
        have : i = 0 ∧ s = 0 := by
          cases i with
          | zero => simp at hs; exact ⟨rfl, hs.symm⟩
          | succ i => simp at hs
        rw [this.1, this.2, gA_wS]
        exact wA_at _ _ _ _
  · rw [b01_f hs]
    exact ⟨fun z => absurd rfl z, fun _ => hb fun z => hs z.2.2⟩
/-- the reference's unifiers, if there are any -/
def Um (g : Option (Nat × List (Tm × Int))) (σ : am_S) : Prop := match g with
  | none => gS σ 0 37 = nI 0
  | some p => (p.1 = 3 ∨ p.1 = 4) ∧ okU p.1 p.2 ∧ uM p.1 p.2 σ
theorem mL_len {g : Option (Nat × List (Tm × Int))} (h : Um g σ) : gS σ 0 37 = nI (gL g).length ∧ (gL g).length ≤ 65536 := by
  cases g with
  | none => exact ⟨h, by simp [gL]⟩
  | some p =>
    refine ⟨h.2.2.2.2.2.2.2.1, ?_⟩
    have h1 := gls_len (cov := covB (uB p.2) (vn p.2)) (gr := grB (uB p.2) (vn p.2) p.2.length) (uB p.2).length (allB (vn p.2)) (allL (vn p.2) p.2.length)
    have h2 := Nat.pow_le_pow_right (n := 2) (by decide) h.2.2.2.2.1.2.1
    exact Nat.le_trans h1 h2
theorem nI_p64 {n : Nat} (h : n ≤ 65536) : (nI n - 1).toInt64.toInt = (n : Int) - 1 := by
  rw [i_64]
  exact t_sub (nI_toInt (by omega)) l_1 (by omega)
theorem m_set {g : Option (Nat × List (Tm × Int))} {i : Int32} {Q : Int32 → am_S → Prop} (h : Um g σ) (hb : ¬ (0 ≤ i.toInt ∧ i.toInt < (gL g).length) → Q (-1) σ) (h1 : ∀ j s, i = nI j → (gL g)[j]? = some s → Q (nI s) σ) : am_K ri am_Lm IX11_set (d + 2) [.ref 0, .int i] σ Q := by
  obtain ⟨l1, l2⟩ := mL_len h
  refine vX11_set ?_
  rw [l1]
  refine ⟨_, _, m_inI (d := d) (a := 0) (b := ((gL g).length : Int) - 1) j_0 (nI_p64 l2), ?_⟩
  by_cases hi : 0 ≤ i.toInt ∧ i.toInt ≤ ((gL g).length : Int) - 1
  · rw [b01_t hi]
    refine ⟨fun z => absurd z (by decide), fun _ => ?_⟩
    obtain ⟨j, _, hj, e⟩ := i_2 (n := i) (lo := 0) (hi := (gL g).length - 1) (by omega) ⟨by omega, by omega⟩
    have hpos : 0 < (gL g).length := by omega
    subst e
    have hjl : j < (gL g).length := by omega
    have hs := List.getElem?_eq_getElem hjl
    rw [nI_clamp (n := j) (by omega)]
    refine ⟨pk_in j 65536 (by omega), ?_⟩
    have q := h1 j _ rfl hs
    cases g with
    | none => simp [gL] at hjl
    | some p =>
      rw [h.2.2.2.2.2.2.2.2 j _ hs]
      exact q
  · rw [b01_f hi]
    exact ⟨fun _ => hb fun c => hi ⟨c.1, by omega⟩, fun z => absurd rfl z⟩
theorem m_bases {g : Option (Nat × List (Tm × Int))} {i : Int32} {Q : Int32 → am_S → Prop} (h : Um g σ) (hb : ¬ (0 ≤ i.toInt ∧ i.toInt ≤ 2) → Q (-1) σ) (hn : (0 ≤ i.toInt ∧ i.toInt ≤ 2) → gL g = [] → Q (-2) σ) (h1 : ∀ p, g = some p → gL g ≠ [] → (i = nI 0 → Q (nI (uB p.2).length) σ) ∧ (i = nI 1 → Q (nI (usf (grB (uB p.2) (vn p.2) p.2.length) (uB p.2).length)) σ) ∧ (i = nI 2 → Q (nI p.2.length) σ)) : am_K ri am_Lm IX11_bases (d + 2) [.ref 0, .int i] σ Q := by
  obtain ⟨l1, l2⟩ := mL_len h
  refine vX11_bases ⟨_, _, m_inI (d := d) (a := 0) (b := 2) j_0 j_2, ?_⟩
  by_cases hi : 0 ≤ i.toInt ∧ i.toInt ≤ 2
  · rw [b01_t hi]
    dsimp only
    rw [l1]
    refine ⟨fun _ => ⟨fun z3 => ?_, fun z3 => hn hi (List.length_eq_zero_iff.mp ((nx_z (by omega)).mp z3))⟩, fun z => absurd z (by decide)⟩
    have hne : gL g ≠ [] := fun e => z3 (by rw [e]; rfl)
    cases g with
    | none => exact absurd rfl hne
    | some p =>
      obtain ⟨q0, q1, q2⟩ := h1 p rfl hne
      obtain ⟨a1, a2, a3, a4, a5, a6, a7⟩ := h.2.2
      have hvn := vn_le p.2
      rw [a5, a3.1, a2.1, a2.2.1, nI_add, show vn p.2 + (p.2.length - vn p.2) = p.2.length by omega]
      refine ⟨fun n0 => ⟨fun n1 => q2 ?_, fun e => q1 e⟩, fun e => q0 e⟩
      rw [i_eq] at n0 n1 ⊢
      rw [l_0] at n0
      rw [l_1] at n1
      rw [nI_toInt (by omega)]
      omega
  · rw [b01_f hi]
    exact ⟨fun z => absurd rfl z, fun _ => hb hi⟩
theorem m_base {g : Option (Nat × List (Tm × Int))} {i j : Int32} {Q : Int32 → am_S → Prop} (h : Um g σ) (hb : gL g = [] → Q (-1) σ) (h0 : ∀ p, g = some p → gL g ≠ [] → ¬ (0 ≤ i.toInt ∧ i.toInt < (uB p.2).length ∧ 0 ≤ j.toInt ∧ j.toInt < p.2.length) → Q (-1) σ) (h1 : ∀ p a b, g = some p → gL g ≠ [] → a < (uB p.2).length → b < p.2.length → i = nI a → j = nI b → Q (nI (((uB p.2).getD a []).getD b 0)) σ) : am_K ri am_Lm IX11_base (d + 2) [.ref 0, .int i, .int j] σ Q := by
  obtain ⟨l1, l2⟩ := mL_len h
  refine vX11_base ?_
  rw [l1]
  refine pk_le (gL g).length 0 (fun e => hb (List.length_eq_zero_iff.mp (by omega))) (fun e => ?_)
  have hne : gL g ≠ [] := fun e2 => by rw [e2] at e; simp at e
  cases g with
  | none => exact absurd rfl hne
  | some p =>
    obtain ⟨a1, a2, a3, a4, a5, a6, a7⟩ := h.2.2
    have hn := h.2.1.1
    have hvn := vn_le p.2
    have hB := a3.2.1
    have no : ¬ (0 ≤ i.toInt ∧ i.toInt < (uB p.2).length ∧ 0 ≤ j.toInt ∧ j.toInt < p.2.length) → Q (-1) σ := h0 p rfl hne
    rw [a3.1]
    refine ⟨_, _, m_inI (d := d) (a := 0) (b := ((uB p.2).length : Int) - 1) j_0 (nI_p64 (by omega)), ?_⟩
    by_cases hi : 0 ≤ i.toInt ∧ i.toInt ≤ ((uB p.2).length : Int) - 1
    · rw [b01_t hi]
      refine ⟨fun z => absurd z (by decide), fun _ => ?_⟩
      rw [a2.1, a2.2.1, nI_add, show vn p.2 + (p.2.length - vn p.2) = p.2.length by omega]
      refine ⟨_, _, m_inI (d := d) (a := 0) (b := (p.2.length : Int) - 1) j_0 (nI_p64 (by omega)), ?_⟩
      by_cases hj : 0 ≤ j.toInt ∧ j.toInt ≤ (p.2.length : Int) - 1
      · rw [b01_t hj]
        refine ⟨fun z => absurd z (by decide), fun _ => ?_⟩
        obtain ⟨a, _, ha, e1⟩ := i_2 (n := i) (lo := 0) (hi := (uB p.2).length - 1) (by omega) ⟨by omega, by omega⟩
        obtain ⟨b, _, hb2, e2⟩ := i_2 (n := j) (lo := 0) (hi := p.2.length - 1) (by omega) ⟨by omega, by omega⟩
        obtain ⟨k, k1, k2, k3⟩ := a3.2.2 a (by omega)
        have q := h1 p a b rfl hne (by omega) (by omega) e1 e2
        rw [e1, e2, nI_clamp (n := a) (by omega), k2, show (32 : Int32) = nI 32 from rfl, pk_mul, nI_add, nI_clamp (n := 32 * k + b) (by omega), k3 b (by omega)]
        exact ⟨pk_in a 17 (by omega), pk_in (32 * k + b) 600 (by omega), q⟩
      · rw [b01_f hj]
        exact ⟨fun _ => no fun c => hj ⟨c.2.2.1, by omega⟩, fun z => absurd rfl z⟩
    · rw [b01_f hi]
      exact ⟨fun _ => no fun c => hi ⟨c.1, by omega⟩, fun z => absurd rfl z⟩
end UM
