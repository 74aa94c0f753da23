/-! ===== the reference's memory: terms as segments of its arrays ===== -/
theorem gA_wS {σ : am_S} {n k : Nat} {v : Int32} : gA (wS σ n k v) = gA σ := rfl
theorem gS_wA {σ : am_S} {n k : Nat} {v : Int32} : gS (wA σ n k v) = gS σ := rfl
def eat : Nat → Tm → Nat
  | 0, _ => 0
  | _ + 1, [] => 0
  | n + 1, h :: r => 1 + eat (n + h.2.2) r
theorem eat_trees : ∀ {x : Tm} {n : Nat} {r : Tm}, trees n x → eat n (x ++ r) = x.length
  | [], n, r, h => by
    have e : n = 0 := h
    subst e
    simp [eat]
  | a :: x, n, r, h => by
    obtain ⟨m, rfl, h2⟩ := h
    show 1 + eat (m + a.2.2) (x ++ r) = _
    rw [eat_trees h2, List.length_cons]
    omega
theorem eat_app {x r : Tm} {a b : Nat} (h : trees (a + b) x) : eat a (x ++ r) = eat a x := by
  obtain ⟨y, z, rfl, h2, _⟩ := trees_cut x a b h
  rw [List.append_assoc, eat_trees h2, eat_trees h2]
def seg (σ : am_S) : Nat → Tm → Prop
  | _, [] => True
  | p, h :: r => gA σ 1 p = nI h.1 ∧ gA σ 2 p = nI h.2.1 ∧ gA σ 3 p = nI h.2.2 ∧ gA σ 4 p = nI (eat 1 (h :: r)) ∧ seg σ (p + 1) r
section SG
variable {σ τ υ : am_S}
theorem seg_app : ∀ {x r : Tm} {n p : Nat}, trees n x → (seg σ p (x ++ r) ↔ seg σ p x ∧ seg σ (p + x.length) r)
  | [], r, n, p, _ => by simp [seg]
  | h :: x, r, n, p, hx => by
    obtain ⟨m, rfl, h2⟩ := hx
    have e : eat 1 (h :: (x ++ r)) = eat 1 (h :: x) := by
      show 1 + eat (0 + h.2.2) (x ++ r) = 1 + eat (0 + h.2.2) x
      rw [eat_app (b := m) (by rw [Nat.zero_add, Nat.add_comm]; exact h2)]
    have ih := seg_app (r := r) (p := p + 1) h2
    simp only [List.cons_append, seg, e, ih, List.length_cons]
    rw [show p + 1 + x.length = p + (x.length + 1) by omega]
    constructor
    · rintro ⟨a, b, c, d, e, f⟩
      exact ⟨⟨a, b, c, d, e⟩, f⟩
    · rintro ⟨⟨a, b, c, d, e⟩, f⟩
      exact ⟨a, b, c, d, e, f⟩
theorem seg_move : ∀ {x : Tm} {p q : Nat}, (∀ a, 1 ≤ a → a ≤ 4 → ∀ i, i < x.length → gA τ a (q + i) = gA σ a (p + i)) → seg σ p x → seg τ q x
  | [], _, _, _, _ => trivial
  | h :: r, p, q, hc, g => by
    obtain ⟨g1, g2, g3, g4, g5⟩ := g
    have h0 : ∀ a, 1 ≤ a → a ≤ 4 → gA τ a q = gA σ a p := fun a h1 h2 => by
      have := hc a h1 h2 0 (by simp)
      simpa using this
    refine ⟨by rw [h0 1 (by omega) (by omega)]; exact g1, by rw [h0 2 (by omega) (by omega)]; exact g2, by rw [h0 3 (by omega) (by omega)]; exact g3, by rw [h0 4 (by omega) (by omega)]; exact g4, seg_move (fun a h1 h2 i hi => ?_) g5⟩
    have := hc a h1 h2 (i + 1) (by simp; omega)
    rw [show q + (i + 1) = q + 1 + i by omega, show p + (i + 1) = p + 1 + i by omega] at this
    exact this
theorem seg_A {x : Tm} {p : Nat} (h : gA τ = gA σ) (g : seg σ p x) : seg τ p x := seg_move (fun a _ _ i _ => by rw [h]) g
theorem eat_node {k a : Nat} {L : List Tm} (hw : ∀ y ∈ L, wf y) : eat 1 (node k a L) = (node k a L).length := by
  have := eat_trees (r := []) (wf_node (k := k) (a := a) hw)
  rw [List.append_nil] at this
  exact this
theorem seg_node {p k a : Nat} {L : List Tm} (hw : ∀ y ∈ L, wf y) : seg σ p (node k a L) ↔ gA σ 1 p = nI k ∧ gA σ 2 p = nI a ∧ gA σ 3 p = nI L.length ∧ gA σ 4 p = nI (node k a L).length ∧ seg σ (p + 1) L.flatten := by
  rw [← eat_node hw]
  exact Iff.rfl
theorem seg_flat : ∀ {L : List Tm} {p : Nat}, (∀ y ∈ L, wf y) → seg σ p L.flatten → ∀ i y, L[i]? = some y → seg σ (p + (L.take i).flatten.length) y
  | [], _, _, _, i, y, hy => by simp at hy
  | x :: L, p, hw, h, i, y, hy => by
    rw [List.flatten_cons, seg_app (hw x List.mem_cons_self)] at h
    cases i with
    | zero =>
      simp at hy
      subst hy
      simpa using h.1
    | succ i =>
      have := seg_flat (fun y hy => hw y (List.mem_cons_of_mem _ hy)) h.2 i y (by simpa using hy)
      rw [List.take_succ_cons, List.flatten_cons, List.length_append, ← Nat.add_assoc]
      exact this
theorem seg_kd {p : Nat} {x : Tm} (hw : wf x) (h : seg σ p x) : gA σ 1 p = nI (kd x) ∧ gA σ 2 p = nI (nm x) ∧ gA σ 3 p = nI (pts x).length ∧ gA σ 4 p = nI x.length := by
  obtain ⟨k, a, L, rfl, hL⟩ := wf_out hw
  rw [seg_node hL] at h
  rw [pts_node hL]
  exact ⟨h.1, h.2.1, h.2.2.1, h.2.2.2.1⟩
def off (L : List Tm) (i : Nat) : Nat := (L.take i).flatten.length
theorem off_s {L : List Tm} {i : Nat} (h : i < L.length) : off L (i + 1) = off L i + L[i].length := by
  unfold off
  rw [take_snoc h, List.flatten_append, List.length_append]
  simp
theorem off_le (L : List Tm) (i : Nat) : off L i ≤ L.flatten.length := by
  have : L.flatten = (L.take i).flatten ++ (L.drop i).flatten := by rw [← List.flatten_append, List.take_append_drop]
  unfold off
  rw [this, List.length_append]
  omega
theorem off_0 (L : List Tm) : off L 0 = 0 := by simp [off]
theorem wf_pts {x : Tm} (hw : wf x) : (∀ y ∈ pts x, wf y) ∧ x = node (kd x) (nm x) (pts x) ∧ x.length = 1 + (pts x).flatten.length := by
  obtain ⟨k, a, L, rfl, hL⟩ := wf_out hw
  rw [pts_node hL, kd_node, nm_node]
  exact ⟨hL, rfl, node_len _ _ _⟩
theorem seg_pts {p : Nat} {x : Tm} (hw : wf x) (h : seg σ p x) : ∀ i y, (pts x)[i]? = some y → seg σ (p + 1 + off (pts x) i) y := by
  obtain ⟨k, a, L, rfl, hL⟩ := wf_out hw
  rw [seg_node hL] at h
  rw [pts_node hL]
  exact seg_flat hL h.2.2.2.2
/-! what the reference's making of terms leaves alone -/
def wk (lo fr : Nat) (σ τ : am_S) : Prop := (∀ n k, (n, k) ∉ [(0, 4), (0, 5), (0, 7)] → gS τ n k = gS σ n k) ∧ (∀ n, n ∉ [1, 2, 3, 4, 5] → gA τ n = gA σ n) ∧ (∀ n, 1 ≤ n → n ≤ 4 → ∀ i, i < lo → gA τ n i = gA σ n i) ∧ (∀ i, i < fr → gA τ 5 i = gA σ 5 i) ∧ gJ τ = gJ σ ∧ gP τ = gP σ ∧ gQ τ = gQ σ ∧ τ.2 = σ.2
theorem wk_rfl {lo f : Nat} : wk lo f σ σ := ⟨fun _ _ _ => rfl, fun _ _ => rfl, fun _ _ _ _ _ => rfl, fun _ _ => rfl, rfl, rfl, rfl, rfl⟩
theorem wk_trans {lo f : Nat} (h : wk lo f σ τ) (g : wk lo f τ υ) : wk lo f σ υ := by
  obtain ⟨h1, h2, h3, h4, h5, h6, h7, h8⟩ := h
  obtain ⟨g1, g2, g3, g4, g5, g6, g7, g8⟩ := g
  exact ⟨fun n k z => (g1 n k z).trans (h1 n k z), fun n z => (g2 n z).trans (h2 n z), fun n a b i z => (g3 n a b i z).trans (h3 n a b i z), fun i z => (g4 i z).trans (h4 i z), g5.trans h5, g6.trans h6, g7.trans h7, g8.trans h8⟩
theorem wk_mono {lo f lo' f' : Nat} (h : wk lo f σ τ) (h1 : lo' ≤ lo) (h2 : f' ≤ f) : wk lo' f' σ τ := ⟨h.1, h.2.1, fun n a b i z => h.2.2.1 n a b i (by omega), fun i z => h.2.2.2.1 i (by omega), h.2.2.2.2⟩
theorem wk_S {lo f k : Nat} {v : Int32} (h : wk lo f σ τ) (hk : k = 4 ∨ k = 5 ∨ k = 7) : wk lo f σ (wS τ 0 k v) := by
  obtain ⟨h1, h2, h3, h4, h5⟩ := h
  refine ⟨fun n j z => ?_, h2, h3, h4, h5⟩
  rw [← h1 n j z]
  refine wS_ne fun e => z ?_
  rw [e.1, e.2]
  rcases hk with h | h | h <;> simp [h]
theorem wk_A {lo f n i : Nat} {v : Int32} (h : wk lo f σ τ) (h1 : 1 ≤ n) (h4 : n ≤ 4) (hi : lo ≤ i) : wk lo f σ (wA τ n i v) := by
  obtain ⟨a, b, c, d, e⟩ := h
  refine ⟨a, fun m hm => ?_, fun m p q j hj => ?_, fun j hj => ?_, e⟩
  · rw [← b m hm]
    exact wA_arr fun z => hm (by rw [z]; simp; omega)
  · rw [← c m p q j hj]
    exact wA_ne (by omega)
  · rw [← d j hj]
    exact wA_ne (by omega)
theorem wk_5 {lo f i : Nat} {v : Int32} (h : wk lo f σ τ) (hi : f ≤ i) : wk lo f σ (wA τ 5 i v) := by
  obtain ⟨a, b, c, d, e⟩ := h
  refine ⟨a, fun m hm => ?_, fun m p q j hj => ?_, fun j hj => ?_, e⟩
  · rw [← b m hm]
    exact wA_arr fun z => hm (by rw [z]; simp)
  · rw [← c m p q j hj]
    exact wA_ne (by omega)
  · rw [← d j hj]
    exact wA_ne (by omega)
theorem wk_seg {lo f p : Nat} {x : Tm} (h : wk lo f σ τ) (hp : p + x.length ≤ lo) (g : seg σ p x) : seg τ p x := seg_move (fun a h1 h4 i hi => h.2.2.1 a h1 h4 _ (by omega)) g
theorem fr_wk {lo f : Nat} (h : fr [] [] [] [] σ τ) : wk lo f σ τ := by
  obtain ⟨h1, h2, h3, h4, h5, h6⟩ := h
  exact ⟨fun n k _ => h1 n k (by simp), fun n _ => h2 n (by simp), fun n _ _ i _ => by rw [h2 n (by simp)], fun i _ => by rw [h2 5 (by simp)], funext fun n => h3 n (by simp), funext fun n => h4 n (by simp), h5, h6⟩
/-! copying -/
def cw (lo hi : Nat) (σ τ : am_S) : Prop := gS τ = gS σ ∧ (∀ n, n ∉ [1, 2, 3, 4] → gA τ n = gA σ n) ∧ (∀ n i, ¬ (lo ≤ i ∧ i < hi) → gA τ n i = gA σ n i) ∧ gJ τ = gJ σ ∧ gP τ = gP σ ∧ gQ τ = gQ σ ∧ τ.2 = σ.2
theorem cw_wk {lo hi f : Nat} (h : cw lo hi σ τ) : wk lo f σ τ := by
  obtain ⟨h1, h2, h3, h4⟩ := h
  exact ⟨fun n k _ => by rw [h1], fun n hn => h2 n (fun z => hn (by simp at z ⊢; omega)), fun n _ _ i hi => h3 n i (by omega), fun i _ => by rw [h2 5 (by simp)], h4⟩
theorem cw_seg {lo hi p : Nat} {x : Tm} (h : cw lo hi σ τ) (hp : p + x.length ≤ lo ∨ hi ≤ p) (g : seg σ p x) : seg τ p x := seg_move (fun a h1 h4 i hi => h.2.2.1 a _ (by omega)) g
theorem m_copy {p q d : Nat} {x : Tm} {Q : Unit → am_S → Prop} (hw : wf x) (hs : seg σ p x) (hp : p + x.length ≤ 70000) (hq : q + x.length ≤ 70000) (hd : p + x.length ≤ q ∨ q + x.length ≤ p) (H : ∀ τ, cw q (q + x.length) σ τ → seg τ q x → Q () τ) : am_K ru am_Lm IX11_copy (d + 1) [.ref 0, .int (nI p), .int (nI q)] σ Q := by
  have hx := wf_pos hw
  have loop : ∀ m i τ, i + m = x.length → cw q (q + i) σ τ → (∀ a, 1 ≤ a → a ≤ 4 → ∀ j, j < i → gA τ a (q + j) = gA σ a (p + j)) → am_X ru am_Lm IX11_copy (d + 1) 10 [some (.ref 0), some (.int (nI p)), some (.int (nI q)), some (.int (nI x.length)), some (.int (nI i))] [] τ Q := by
    intro m
    induction m with
    | zero =>
      intro i τ hi g1 g2
      have : i = x.length := by omega
      subst this
      exact vX11_copy_10 (pk_le x.length x.length (fun _ => H τ g1 (seg_move g2 hs)) (fun h => by omega))
    | succ m ih =>
      intro i τ hi g1 g2
      refine vX11_copy_10 (pk_le x.length i (fun h => by omega) (fun _ => ?_))
      rw [nI_add, nI_add, nI_1, nI_clamp (n := p + i) (by omega), nI_clamp (n := q + i) (by omega)]
      have v1 : vp_in (nI (p + i)) 70000 := vp_in_nI (by omega) (by decide)
      have v2 : vp_in (nI (q + i)) 70000 := vp_in_nI (by omega) (by decide)
      refine ⟨v1, v2, v1, v2, v1, v2, v1, v2, ih (i + 1) _ (by omega) ?_ ?_⟩
      · obtain ⟨c1, c2, c3, c4⟩ := g1
        refine ⟨c1, fun n hn => ?_, fun n j hj => ?_, c4⟩
        · simp at hn
          rw [wA_arr (by omega), wA_arr (by omega), wA_arr (by omega), wA_arr (by omega)]
          exact c2 n (by simp; omega)
        · rw [wA_ne (by omega), wA_ne (by omega), wA_ne (by omega), wA_ne (by omega)]
          exact c3 n j (by omega)
      · have src : ∀ a, gA τ a (p + i) = gA σ a (p + i) := fun a => g1.2.2.1 a _ (by omega)
        intro a h1 h4 j hj
        by_cases e : j = i
        · subst e
          have h5 : a = 1 ∨ a = 2 ∨ a = 3 ∨ a = 4 := by omega
          rcases h5 with h | h | h | h
          · subst h
            rw [wA_ne (by omega), wA_ne (by omega), wA_ne (by omega), wA_at]
            exact src 1
          · subst h
            rw [wA_ne (by omega), wA_ne (by omega), wA_at]
            exact src 2
          · subst h
            rw [wA_ne (by omega), wA_at]
            exact src 3
          · subst h
            rw [wA_at]
            exact src 4
        · rw [wA_ne (by omega), wA_ne (by omega), wA_ne (by omega), wA_ne (by omega)]
          exact g2 a h1 h4 j (by omega)
  have e4 := (seg_kd hw hs).2.2.2
  refine vX11_copy ⟨vp_in_nI (by omega) (by decide), ?_⟩
  rw [nI_clamp (n := p) (by omega), e4]
  exact loop x.length 0 σ (by omega) ⟨rfl, fun _ _ => rfl, fun _ _ _ => rfl, rfl, rfl, rfl, rfl⟩ (fun _ _ _ j hj => absurd hj (Nat.not_lt_zero _))
theorem m_head {T d : Nat} {k a n : Int32} {Q : Int32 → am_S → Prop} (hT : gS σ 0 4 = nI T) (h : T < 70000) (H : Q (nI T) (wS (wA (wA (wA (wA σ 1 T k) 2 T a) 3 T n) 4 T (1 : Int32)) 0 4 (nI (T + 1)))) : am_K ri am_Lm IX11_head (d + 1) [.ref 0, .int k, .int a, .int n] σ Q := by
  have v : vp_in (nI T) 70000 := vp_in_nI h (by decide)
  refine vX11_head ?_
  rw [hT, nI_1, nI_pred, nI_clamp (n := T) (by omega)]
  exact ⟨v, v, v, v, H⟩
theorem m_partAt {p i d : Nat} {x : Tm} {Q : Int32 → am_S → Prop} (hw : wf x) (hs : seg σ p x) (hp : p + x.length ≤ 70000) (hi : i ≤ (pts x).length) (H : Q (nI (p + 1 + off (pts x) i)) σ) : am_K ri am_Lm IX11_partAt (d + 1) [.ref 0, .int (nI p), .int (nI i)] σ Q := by
  have hl := (wf_pts hw).2.2
  have hpl : (pts x).length < x.length := by
    have h1 := (wf_pts hw).1
    rcases Nat.eq_zero_or_pos (pts x).length with h | h
    · omega
    · have := flat_get h1 (i := (pts x).length - 1) (by omega)
      have := wf_pos (h1 (pts x)[(pts x).length - 1] (List.getElem_mem (by omega)))
      omega
  have loop : ∀ m j, j + m = i → am_X ri am_Lm IX11_partAt (d + 1) 7 [some (.ref 0), some (.int (nI p)), some (.int (nI i)), some (.int (nI (p + 1 + off (pts x) j))), some (.int (nI j))] [] σ Q := by
    intro m
    induction m with
    | zero =>
      intro j hj
      have : j = i := by omega
      subst this
      exact vX11_partAt_7 (pk_le j j (fun _ => H) (fun h => by omega))
    | succ m ih =>
      intro j hj
      have hjl : j < (pts x).length := by omega
      have h1 := seg_pts hw hs j _ (List.getElem?_eq_getElem hjl)
      have h2 := (seg_kd ((wf_pts hw).1 _ (List.getElem_mem hjl)) h1).2.2.2
      have h3 := off_s hjl
      have h4 := off_le (pts x) (j + 1)
      have h5 := wf_pos ((wf_pts hw).1 _ (List.getElem_mem hjl))
      refine vX11_partAt_7 (pk_le i j (fun h => by omega) (fun _ => ⟨vp_in_nI (by omega) (by decide), ?_⟩))
      rw [nI_clamp (n := p + 1 + off (pts x) j) (by omega), h2, nI_add, nI_1, show p + 1 + off (pts x) j + (pts x)[j].length = p + 1 + off (pts x) (j + 1) by omega]
      exact ih (j + 1) (by omega)
  refine vX11_partAt ?_
  rw [nI_1]
  have := loop i 0 (by omega)
  rw [off_0] at this
  exact this
end SG
/-! the depth of terms -/
theorem canF_Can {n : Nat} {x : Tm} (h : canF n x) : Can x := ⟨n, h⟩
theorem canF_pts {n : Nat} {x : Tm} (h : canF (n + 1) x) : ∀ y ∈ pts x, canF n y := by
  obtain ⟨k, a, L, rfl, h2, h3, h4⟩ := h
  rw [pts_node h2]
  exact h4
theorem canF_mk {n k a : Nat} {L : List Tm} (h : loc k a L) (hL : ∀ y ∈ L, canF n y) : canF (n + 1) (node k a L) := ⟨k, a, L, rfl, fun y hy => Can_wf ⟨n, hL y hy⟩, h, hL⟩
theorem canF_len : ∀ x, Can x → canF x.length x := by
  refine can_ind fun k a L hl hc ih => ?_
  rw [node_len, Nat.add_comm]
  exact canF_mk hl fun y hy => canF_mono (mem_flat_len hy) (ih y hy)
theorem m_ordered : ∀ (n : Nat) (x y : Tm) (σ : am_S) (p q d : Nat) (Q : Int32 → am_S → Prop), canF n x → Can y → seg σ p x → seg σ q y → p + x.length ≤ 70000 → q + y.length ≤ 70000 → (tlt x y → ∀ v : Int32, v < 0 → Q v σ) → (x = y → Q 0 σ) → (tlt y x → ∀ v : Int32, 0 < v → Q v σ) → am_K ri am_Lm IX11_ordered (d + n) [.ref 0, .int (nI p), .int (nI q)] σ Q
  | 0, _, _, _, _, _, _, _, h, _, _, _, _, _, _, _, _ => False.elim h
  | n + 1, x, y, σ, p, q, d, Q, hx, hy, sx, sy, hp, hq, H1, H2, H3 => by
    have wx := Can_wf (canF_Can hx)
    have wy := Can_wf hy
    have px := wf_pos wx
    have py := wf_pos wy
    obtain ⟨a1, a2, a3, a4⟩ := seg_kd wx sx
    obtain ⟨b1, b2, b3, b4⟩ := seg_kd wy sy
    obtain ⟨hwx, ex, lx⟩ := wf_pts wx
    obtain ⟨hwy, ey, ly⟩ := wf_pts wy
    obtain ⟨kx1, kx2⟩ := Can_kd (canF_Can hx)
    obtain ⟨ky1, ky2⟩ := Can_kd hy
    have plen : ∀ {z : Tm}, wf z → (pts z).length < z.length := fun {z} hz => by
      have h1 := (wf_pts hz).1
      have h2 := (wf_pts hz).2.2
      rcases Nat.eq_zero_or_pos (pts z).length with h | h
      · omega
      · have := flat_get h1 (i := (pts z).length - 1) (by omega)
        have := wf_pos (h1 (pts z)[(pts z).length - 1] (List.getElem_mem (by omega)))
        omega
    have plx := plen wx
    have ply := plen wy
    have v1 : vp_in (nI p) 70000 := vp_in_nI (by omega) (by decide)
    have v2 : vp_in (nI q) 70000 := vp_in_nI (by omega) (by decide)
    have diff : ∀ {u w : Nat}, u < 70000 → w < 70000 → u ≠ w → (u < w → tlt x y) → (w < u → tlt y x) → Q (nI u - nI w) σ := by
      intro u w hu hw hne f g
      have e := pk_sub_toInt (a := u) (b := w) (by omega) (by omega)
      rcases Nat.lt_or_ge u w with h | h
      · refine H1 (f h) _ ?_
        rw [i_lt, e, l_0]
        omega
      · refine H3 (g (by omega)) _ ?_
        rw [i_lt, e, l_0]
        omega
    have tn : ∀ {z w : Tm}, wf z → wf w → (tlt z w ↔ nl (kd z, nm z, (pts z).length) (kd w, nm w, (pts w).length) ∨ (kd z = kd w ∧ nm z = nm w ∧ (pts z).length = (pts w).length ∧ tlt (pts z).flatten (pts w).flatten)) := fun {z w} hz hw => by
      have e1 := (wf_pts hz).2.1
      have e2 := (wf_pts hw).2.1
      have := tlt_node (k := kd z) (a := nm z) (L := pts z) (k' := kd w) (a' := nm w) (M := pts w)
      rw [← e1, ← e2] at this
      exact this
    have loop : ∀ m i, i + m = (pts x).length → kd x = kd y → nm x = nm y → (pts x).length = (pts y).length → (∀ j, j < i → (pts x)[j]? = (pts y)[j]?) → am_X ri am_Lm IX11_ordered (d + n + 1) 99 [some (.ref 0), some (.int (nI p)), some (.int (nI q)), some (.int (nI (p + 1 + off (pts x) i))), some (.int (nI (q + 1 + off (pts y) i))), some (.int (nI i)), none] [] σ Q := by
      intro m
      induction m with
      | zero =>
        intro i hi e1 e2 e3 he
        refine vX11_ordered_99 ⟨v1, ?_⟩
        rw [nI_clamp (n := p) (by omega), a3]
        refine pk_le (pts x).length i (fun _ => H2 ?_) (fun h => by omega)
        have : pts x = pts y := List.ext_getElem? fun j => by
          rcases Nat.lt_or_ge j (pts x).length with h | h
          · exact he j (by omega)
          · rw [List.getElem?_eq_none h, List.getElem?_eq_none (by omega)]
        rw [ex, ey, e1, e2, this]
      | succ m ihm =>
        intro i hi e1 e2 e3 he
        have hiL : i < (pts x).length := by omega
        have hiM : i < (pts y).length := by omega
        have hmx := List.getElem_mem hiL
        have hmy := List.getElem_mem hiM
        have s1 := seg_pts wx sx i _ (List.getElem?_eq_getElem hiL)
        have s2 := seg_pts wy sy i _ (List.getElem?_eq_getElem hiM)
        have o1 := off_s hiL
        have o2 := off_le (pts x) (i + 1)
        have o3 := off_s hiM
        have o4 := off_le (pts y) (i + 1)
        have w1 := wf_pos (hwx _ hmx)
        have w2 := wf_pos (hwy _ hmy)
        refine vX11_ordered_99 ⟨v1, ?_⟩
        rw [nI_clamp (n := p) (by omega), a3]
        refine pk_le (pts x).length i (fun h => by omega) (fun _ => ?_)
        have key : (pts x)[i] ≠ (pts y)[i] → (tlt x y ↔ tlt (pts x)[i] (pts y)[i]) ∧ (tlt y x ↔ tlt (pts y)[i] (pts x)[i]) := by
          intro ne
          constructor
          · rw [tn wx wy, e1, e2, e3, flat_at hwx hwy hiL hiM he ne]
            exact ⟨fun h => h.elim (fun h => absurd h (nl_irr _)) (fun h => h.2.2.2), fun h => Or.inr ⟨rfl, rfl, rfl, h⟩⟩
          · rw [tn wy wx, e1, e2, e3, flat_at hwy hwx hiM hiL (fun j hj => (he j hj).symm) (Ne.symm ne)]
            exact ⟨fun h => h.elim (fun h => absurd h (nl_irr _)) (fun h => h.2.2.2), fun h => Or.inr ⟨rfl, rfl, rfl, h⟩⟩
        refine m_ordered n (pts x)[i] (pts y)[i] σ _ _ d _ (canF_pts hx _ hmx) ((Can_pts hy).2.2 _ hmy) s1 s2 (by omega) (by omega) (fun h v hv => ?_) (fun h => ?_) (fun h v hv => ?_)
        · refine ⟨fun z => absurd hv (by rw [z]; decide), fun _ => H1 ((key fun e => ?_).1.mpr h) v hv⟩
          rw [e] at h
          exact tlt_irr _ h
        · refine ⟨fun _ => ⟨vp_in_nI (by omega) (by decide), vp_in_nI (by omega) (by decide), ?_⟩, fun z => absurd rfl z⟩
          rw [nI_clamp (n := p + 1 + off (pts x) i) (by omega), nI_clamp (n := q + 1 + off (pts y) i) (by omega), (seg_kd (hwx _ hmx) s1).2.2.2, (seg_kd (hwy _ hmy) s2).2.2.2, nI_add, nI_add, nI_1, show p + 1 + off (pts x) i + (pts x)[i].length = p + 1 + off (pts x) (i + 1) by omega, show q + 1 + off (pts y) i + (pts y)[i].length = q + 1 + off (pts y) (i + 1) by omega]
          refine ihm (i + 1) (by omega) e1 e2 e3 fun j hj => ?_
          by_cases e : j = i
          · subst e
            rw [List.getElem?_eq_getElem hiL, List.getElem?_eq_getElem hiM, h]
          · exact he j (by omega)
        · refine ⟨fun z => absurd hv (by rw [z]; decide), fun _ => H3 ((key fun e => ?_).2.mpr h) v hv⟩
          rw [e] at h
          exact tlt_irr _ h
    show am_K ri am_Lm IX11_ordered (d + n + 1) _ σ Q
    refine vX11_ordered ⟨v1, v2, ?_⟩
    rw [nI_clamp (n := p) (by omega), nI_clamp (n := q) (by omega), a1, b1, a2, b2, a3, b3]
    refine pk_eq (kd x) (kd y) (fun e1 => ⟨v1, v2, pk_eq (nm x) (nm y) (fun e2 => ⟨v1, v2, pk_eq (pts x).length (pts y).length (fun e3 => ?_) (fun e3 => ⟨v1, v2, ?_⟩)⟩) (fun e2 => ⟨v1, v2, ?_⟩)⟩) (fun e1 => ⟨v1, v2, ?_⟩)
    · have := loop (pts x).length 0 (by omega) e1 e2 e3 (fun j hj => absurd hj (Nat.not_lt_zero _))
      rw [off_0, off_0] at this
      rw [nI_1, nI_1]
      exact this
    · exact diff (by omega) (by omega) e3 (fun h => (tn wx wy).mpr (Or.inl (Or.inr ⟨e1, Or.inr ⟨e2, h⟩⟩))) (fun h => (tn wy wx).mpr (Or.inl (Or.inr ⟨e1.symm, Or.inr ⟨e2.symm, h⟩⟩)))
    · exact diff (by omega) (by omega) e2 (fun h => (tn wx wy).mpr (Or.inl (Or.inr ⟨e1, Or.inl h⟩))) (fun h => (tn wy wx).mpr (Or.inl (Or.inr ⟨e1.symm, Or.inl h⟩)))
    · exact diff (by omega) (by omega) e1 (fun h => (tn wx wy).mpr (Or.inl (Or.inl h))) (fun h => (tn wy wx).mpr (Or.inl (Or.inl h)))
