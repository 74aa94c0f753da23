/-! ===== the reference: findBases ===== -/
section FB
variable {σ τ : am_S} {n S : Nat} {w : Nat → Int} {d : Nat}
theorem sm_dot_pos : ∀ (x : List Nat) (i : Nat), (∀ j, j < x.length → 0 < w (i + j)) → (sm x : Int) ≤ dot w i x
  | [], _, _ => by simp [sm, dot]
  | a :: x, i, h => by
    have ih := sm_dot_pos x (i + 1) fun j hj => by
      have := h (j + 1) (by simp; omega)
      rw [show i + 1 + j = i + (j + 1) by omega]
      exact this
    have h0 := h 0 (by simp)
    rw [Nat.add_zero] at h0
    have : (a : Int) ≤ w i * a := by
      have := Int.mul_le_mul_of_nonneg_right (show (1 : Int) ≤ w i by omega) (Int.natCast_nonneg a)
      omega
    simp only [sm, dot]
    omega
theorem isMin_neg {x : List Nat} (h : isMin 1 n S (fun _ => w) x) : isMin 1 n S (fun _ j => - w j) x := by
  have e : ∀ y, isSol 1 n S (fun _ j => - w j) y ↔ isSol 1 n S (fun _ => w) y := fun y => by
    unfold isSol
    constructor
    · rintro ⟨a, b, c, f⟩
      refine ⟨a, b, c, fun r hr => ?_⟩
      have h : dot (fun j => - w j) 0 y = 0 := f r hr
      rw [dot_neg] at h
      show dot w 0 y = 0
      omega
    · rintro ⟨a, b, c, f⟩
      refine ⟨a, b, c, fun r hr => ?_⟩
      have h : dot w 0 y = 0 := f r hr
      show dot (fun j => - w j) 0 y = 0
      rw [dot_neg]
      omega
  exact ⟨(e x).mpr h.1, fun y hy => h.2 y ((e y).mp hy)⟩
theorem lambert2 {B : Nat} {x : List Nat} (hm : isMin 1 n S (fun _ => w) x) (hw : ∀ j, j < n → w j ≠ 0) (hB : ∀ j, j < n → -(B : Int) ≤ w j) : sP w x ≤ B := by
  rcases Nat.eq_zero_or_pos B with h | h
  · exfalso
    have h1 := sm_dot_pos (w := w) x 0 fun j hj => by
      rw [hm.1.1] at hj
      have := hB j hj
      have := hw j hj
      rw [Nat.zero_add]
      omega
    have h2 : dot w 0 x = 0 := hm.1.2.2.2 0 (by omega)
    have h3 := hm.1.2.2.1
    omega
  · exact lambert (A := fun _ => w) hm hw hB h
/-- the vector with two numbers -/
def two (n i j a b : Nat) : List Nat := (List.range n).map (fun k => if k = i then a else if k = j then b else 0)
theorem dot_map (f : Nat → Nat) : ∀ (m i : Nat), dot w i ((List.range' i m).map f) = (List.range' i m).foldr (fun k acc => w k * (f k : Int) + acc) 0
  | 0, _ => rfl
  | m + 1, i => by
    rw [List.range'_succ, List.map_cons, List.foldr_cons]
    simp only [dot]
    rw [dot_map f m (i + 1)]
theorem fold_two (g : Nat → Int) {i j : Nat} (hij : i ≠ j) {a b : Int} (hi : g i = a) (hj : g j = b) (h0 : ∀ k, k ≠ i → k ≠ j → g k = 0) : ∀ (m s : Nat), (List.range' s m).foldr (fun k acc => g k + acc) 0 = (if s ≤ i ∧ i < s + m then a else 0) + (if s ≤ j ∧ j < s + m then b else 0)
  | 0, s => by
    rw [if_neg (by omega), if_neg (by omega)]
    rfl
  | m + 1, s => by
    rw [List.range'_succ, List.foldr_cons, fold_two g hij hi hj h0 m (s + 1)]
    by_cases e1 : s = i
    · subst e1
      rw [hi, if_neg (c := s + 1 ≤ s ∧ s < s + 1 + m) (by omega), if_pos (c := s ≤ s ∧ s < s + (m + 1)) (by omega)]
      by_cases h : s + 1 ≤ j ∧ j < s + 1 + m
      · rw [if_pos h, if_pos (by omega)]; omega
      · rw [if_neg h, if_neg (by omega)]; omega
    · by_cases e2 : s = j
      · subst e2
        rw [hj, if_neg (c := s + 1 ≤ s ∧ s < s + 1 + m) (by omega), if_pos (c := s ≤ s ∧ s < s + (m + 1)) (by omega)]
        by_cases h : s + 1 ≤ i ∧ i < s + 1 + m
        · rw [if_pos h, if_pos (by omega)]; omega
        · rw [if_neg h, if_neg (by omega)]; omega
      · rw [h0 s e1 e2]
        by_cases h : s + 1 ≤ i ∧ i < s + 1 + m
        · rw [if_pos h, if_pos (c := s ≤ i ∧ i < s + (m + 1)) (by omega)]
          by_cases h' : s + 1 ≤ j ∧ j < s + 1 + m
          · rw [if_pos h', if_pos (by omega)]; omega
          · rw [if_neg h', if_neg (by omega)]; omega
        · rw [if_neg h, if_neg (c := s ≤ i ∧ i < s + (m + 1)) (by omega)]
          by_cases h' : s + 1 ≤ j ∧ j < s + 1 + m
          · rw [if_pos h', if_pos (by omega)]; omega
          · rw [if_neg h', if_neg (by omega)]; omega
theorem sm_map (f : Nat → Nat) : ∀ (m i : Nat), ((sm ((List.range' i m).map f) : Nat) : Int) = (List.range' i m).foldr (fun k acc => (f k : Int) + acc) 0
  | 0, _ => rfl
  | m + 1, i => by
    rw [List.range'_succ, List.map_cons, List.foldr_cons]
    simp only [sm]
    rw [Int.natCast_add, sm_map f m (i + 1)]
theorem two_get {i j a b k : Nat} (hk : k < n) : (two n i j a b).getD k 0 = if k = i then a else if k = j then b else 0 := by
  unfold two
  rw [List.getD_eq_getElem?_getD, List.getElem?_map, List.getElem?_range hk]
  rfl
theorem dot_zero2 : ∀ (x : List Nat) (s : Nat), (∀ k, k < x.length → x.getD k 0 = 0) → dot w s x = 0 ∧ sm x = 0
  | [], s, _ => ⟨rfl, rfl⟩
  | a :: x, s, h => by
    have ih := dot_zero2 x (s + 1) fun k hk => h (k + 1) (by simpa using hk)
    have h0 := h 0 (by simp)
    simp at h0
    simp only [dot, sm]
    rw [ih.1, ih.2, h0]
    simp
theorem dot_one : ∀ (x : List Nat) (s i : Nat), i < x.length → (∀ k, k < x.length → k ≠ i → x.getD k 0 = 0) → dot w s x = w (s + i) * (x.getD i 0 : Nat) ∧ sm x = x.getD i 0
  | [], s, i, h, _ => by simp at h
  | a :: x, s, 0, h, hz => by
    have := dot_zero2 (w := w) x (s + 1) fun k hk => hz (k + 1) (by simpa using hk) (by omega)
    simp only [dot, sm, Nat.add_zero]
    rw [this.1, this.2]
    simp
  | a :: x, s, i + 1, h, hz => by
    have ih := dot_one x (s + 1) i (by simpa using h) fun k hk hne => hz (k + 1) (by simpa using hk) (by omega)
    have h0 := hz 0 (by simp) (by omega)
    simp at h0
    simp only [dot, sm]
    rw [ih.1, ih.2, h0, show s + 1 + i = s + (i + 1) by omega]
    simp
/-- for each pair of one of either side there is a least solution of these two alone -/
theorem pair_min {i j a b : Nat} (hi : i < n) (hj : j < n) (ha : w i = (a : Int)) (hb : w j = -(b : Int)) (ha0 : 0 < a) (hb0 : 0 < b) (hab : a + b ≤ S) : ∃ x, isMin 1 n S (fun _ => w) x ∧ 0 < x.getD i 0 ∧ 0 < x.getD j 0 ∧ ∀ k, k ≠ i → k ≠ j → x.getD k 0 = 0 := by
  have hij : i ≠ j := fun e => by rw [e, hb] at ha; omega
  have hlen : (two n i j b a).length = n := by unfold two; simp
  have hsm : sm (two n i j b a) = b + a := by
    have h := sm_map (fun k => if k = i then b else if k = j then a else 0) n 0
    rw [fold_two (fun k => ((if k = i then b else if k = j then a else 0 : Nat) : Int)) hij (a := b) (b := a) (by simp) (by rw [if_neg (Ne.symm hij), if_pos rfl]) (fun k h1 h2 => by rw [if_neg h1, if_neg h2]; rfl) n 0, if_pos (by omega), if_pos (by omega)] at h
    unfold two
    rw [List.range_eq_range']
    omega
  have hdot : dot w 0 (two n i j b a) = 0 := by
    unfold two
    rw [List.range_eq_range', dot_map, fold_two (fun k => w k * ((if k = i then b else if k = j then a else 0 : Nat) : Int)) hij (a := w i * b) (b := w j * a) (by simp) (by rw [if_neg (Ne.symm hij), if_pos rfl]) (fun k h1 h2 => by rw [if_neg h1, if_neg h2]; simp) n 0, if_pos (by omega), if_pos (by omega), ha, hb, Int.neg_mul, Int.mul_comm (a : Int)]
    omega
  have hsol : isSol 1 n S (fun _ => w) (two n i j b a) := ⟨hlen, by omega, by omega, fun _ _ => hdot⟩
  obtain ⟨x, hx1, hx2⟩ := min_below (sm (two n i j b a)) (Nat.le_refl _) hsol
  have hxl := vle_len hx2
  have hle := (vle_iff hxl).mp hx2
  have hz : ∀ k, k ≠ i → k ≠ j → x.getD k 0 = 0 := fun k h1 h2 => by
    by_cases hk : k < n
    · have := hle k (by omega)
      rw [two_get hk, if_neg h1, if_neg h2] at this
      omega
    · rw [List.getD_eq_getElem?_getD, List.getElem?_eq_none (by omega)]
      rfl
  have hx0 := hx1.1.2.2.1
  have hxd : dot w 0 x = 0 := hx1.1.2.2.2 0 (by omega)
  refine ⟨x, hx1, ?_, ?_, hz⟩
  · refine Nat.pos_of_ne_zero fun e => ?_
    have h1 := dot_one (w := w) x 0 j (by omega) fun k _ hk => by
      by_cases e2 : k = i
      · rw [e2]; exact e
      · exact hz k e2 hk
    rw [Nat.zero_add, hb] at h1
    have h2 : 0 < x.getD j 0 := by omega
    have h3 : (0 : Int) < (b : Int) * (x.getD j 0 : Nat) := Int.mul_pos (by omega) (by omega)
    have h4 := h1.1
    rw [Int.neg_mul] at h4
    omega
  · refine Nat.pos_of_ne_zero fun e => ?_
    have h1 := dot_one (w := w) x 0 i (by omega) fun k _ hk => by
      by_cases e2 : k = j
      · rw [e2]; exact e
      · exact hz k hk e2
    rw [Nat.zero_add, ha] at h1
    have h2 : 0 < x.getD i 0 := by omega
    have h3 : (0 : Int) < (a : Int) * (x.getD i 0 : Nat) := Int.mul_pos (by omega) (by omega)
    have h4 := h1.1
    omega
/-- how many stand on the left -/
def lfs (w : Nat → Int) : Nat → Nat
  | 0 => 0
  | j + 1 => lfs w j + (if 0 < w j then 1 else 0)
theorem lfs_len : ∀ m, lfs w m = ((List.range m).filter (fun j => decide (0 < w j))).length ∧ m - lfs w m = ((List.range m).filter (fun j => ! decide (0 < w j))).length ∧ lfs w m ≤ m
  | 0 => ⟨rfl, rfl, Nat.le_refl _⟩
  | m + 1 => by
    obtain ⟨h1, h2, h3⟩ := lfs_len m
    rw [List.range_succ, List.filter_append, List.filter_append, List.length_append, List.length_append, ← h1, ← h2]
    simp only [lfs]
    by_cases h : 0 < w m
    · simp [h]; omega
    · simp [h]; omega
theorem pairs_nd {L R : List Nat} (hL : L.Nodup) (hR : R.Nodup) : (L.flatMap (fun i => R.map (fun j => (i, j)))).Nodup := by
  induction L with
  | nil => simp
  | cons a L ih =>
    have h := List.nodup_cons.mp hL
    rw [List.flatMap_cons]
    refine List.nodup_append.mpr ⟨?_, ih h.2, fun p hp q hq e => ?_⟩
    · refine List.pairwise_map.mpr (List.Pairwise.imp (fun hne e => hne (Prod.mk.inj e).2) hR)
    · obtain ⟨j, _, e1⟩ := List.mem_map.mp hp
      obtain ⟨i, hi, hq2⟩ := List.mem_flatMap.mp hq
      obtain ⟨j2, _, e2⟩ := List.mem_map.mp hq2
      rw [← e1, ← e2] at e
      exact h.1 ((Prod.mk.inj e).1 ▸ hi)
theorem pairs_len (L R : List Nat) : (L.flatMap (fun i => R.map (fun j => (i, j)))).length = L.length * R.length := by
  induction L with
  | nil => simp
  | cons a L ih =>
    rw [List.flatMap_cons, List.length_append, ih, List.length_map, List.length_cons, Nat.add_mul]
    omega
theorem many_sols {BL BR : Nat} (hw : ∀ j, j < n → w j ≠ 0) (hBL : ∀ j, j < n → w j ≤ (BL : Int)) (hBR : ∀ j, j < n → -(BR : Int) ≤ w j) (hS : BL + BR ≤ S) : lfs w n * (n - lfs w n) ≤ (sols 1 n S (fun _ => w)).length := by
  obtain ⟨h1, h2, _⟩ := lfs_len (w := w) n
  have key : ∀ p : Nat × Nat, p.1 < n → p.2 < n → 0 < w p.1 → ¬ 0 < w p.2 → ∃ x, isMin 1 n S (fun _ => w) x ∧ 0 < x.getD p.1 0 ∧ 0 < x.getD p.2 0 ∧ ∀ k, k ≠ p.1 → k ≠ p.2 → x.getD k 0 = 0 := fun p p1 p2 p3 p4 => by
    have q1 := hBL _ p1
    have q2 := hBR _ p2
    have q3 := hw _ p2
    exact pair_min (a := (w p.1).toNat) (b := (- w p.2).toNat) p1 p2 (by omega) (by omega) (by omega) (by omega) (by omega)
  rw [h2, h1, ← pairs_len]
  let f : Nat × Nat → List Nat := fun p => @dite _ (p.1 < n ∧ p.2 < n ∧ 0 < w p.1 ∧ ¬ 0 < w p.2) (Classical.propDecidable _) (fun h => (key p h.1 h.2.1 h.2.2.1 h.2.2.2).choose) (fun _ => [])
  have hf : ∀ p : Nat × Nat, (p.1 < n ∧ p.2 < n ∧ 0 < w p.1 ∧ ¬ 0 < w p.2) → isMin 1 n S (fun _ => w) (f p) ∧ 0 < (f p).getD p.1 0 ∧ 0 < (f p).getD p.2 0 ∧ ∀ k, k ≠ p.1 → k ≠ p.2 → (f p).getD k 0 = 0 := fun p h => by
    have e : f p = (key p h.1 h.2.1 h.2.2.1 h.2.2.2).choose := dif_pos h
    rw [e]
    exact (key p h.1 h.2.1 h.2.2.1 h.2.2.2).choose_spec
  have hmem : ∀ p, p ∈ ((List.range n).filter (fun j => decide (0 < w j))).flatMap (fun i => ((List.range n).filter (fun j => ! decide (0 < w j))).map (fun j => (i, j))) → (p.1 < n ∧ p.2 < n ∧ 0 < w p.1 ∧ ¬ 0 < w p.2) := fun p hp => by
    obtain ⟨i, hi, hp2⟩ := List.mem_flatMap.mp hp
    obtain ⟨j, hj, e⟩ := List.mem_map.mp hp2
    rw [← e]
    have hi2 := List.mem_filter.mp hi
    have hj2 := List.mem_filter.mp hj
    exact ⟨List.mem_range.mp hi2.1, List.mem_range.mp hj2.1, by simpa using hi2.2, by simpa using hj2.2⟩
  have hnd := pairs_nd (L := (List.range n).filter (fun j => decide (0 < w j))) (R := (List.range n).filter (fun j => ! decide (0 < w j))) (List.Pairwise.filter _ List.nodup_range) (List.Pairwise.filter _ List.nodup_range)
  rw [← List.length_map (f := f)]
  refine nd_le ?_ (fun x hx => ?_)
  · refine List.pairwise_map.mpr (List.Pairwise.imp_of_mem (fun {p q} hp hq hne e => hne ?_) hnd)
    have a := hf p (hmem p hp)
    have b := hf q (hmem q hq)
    have hp2 := hmem p hp
    have hq2 := hmem q hq
    rw [e] at a
    -- where it is not 0
    have e1 : p.1 = q.1 := by
      refine Classical.byContradiction fun c => ?_
      have h1 := a.2.1
      by_cases c2 : p.1 = q.2
      · exact hq2.2.2.2 (c2 ▸ hp2.2.2.1)
      · have := b.2.2.2 p.1 c c2
        omega
    have e2 : p.2 = q.2 := by
      refine Classical.byContradiction fun c => ?_
      have h1 := a.2.2.1
      by_cases c2 : p.2 = q.1
      · exact hp2.2.2.2 (c2 ▸ hq2.2.2.1)
      · have := b.2.2.2 p.2 c2 c
        omega
    exact Prod.ext e1 e2
  · obtain ⟨p, hp, e⟩ := List.mem_map.mp hx
    rw [← e, sols_mem]
    exact (hf p (hmem p hp)).1
/-- what base(i, j) reads -/
def mbB (n : Nat) (G : List (List Nat)) (σ : am_S) : Prop := gS σ 0 36 = nI G.length ∧ G.length ≤ 16 ∧ ∀ i, i < G.length → ∃ k, k < 16 ∧ gA σ 25 i = nI k ∧ ∀ j, j < n → gA σ 24 (32 * k + j) = nI ((G.getD i []).getD j 0)
abbrev fbW (σ τ : am_S) : Prop := fr [(0, 27), (0, 36), (0, 47), (0, 48)] [20, 24, 25] [] [] σ τ
theorem m_findBases {Q : Int32 → am_S → Prop} (hn : n ≤ 16) (hn1 : 1 ≤ n) (hw : wt n w σ) (hS : (S : Int) = mxI w n - mnI w n)
    (H1 : ∀ τ, fbW σ τ → (sols 1 n S (fun _ => w)).length ≤ 16 → mbB n (sols 1 n S (fun _ => w)) τ → Q 1 τ)
    (H0 : ∀ τ, fbW σ τ → 16 < (sols 1 n S (fun _ => w)).length → Q 0 τ) : am_K ri am_Lm IX11_findBases (d + 20) [.ref 0, .int (nI n)] σ Q := by
  have hmx := mxI_bd (f := w) (B := 8) (by decide) (j := n) fun i hi => (hw i hi).2.2.2
  have hmn := mnI_bd (f := w) (B := -8) (by decide) (j := n) fun i hi => (hw i hi).2.2.1
  obtain ⟨BL, eBL⟩ : ∃ BL : Nat, mxI w n = (BL : Int) := ⟨(mxI w n).toNat, by omega⟩
  obtain ⟨BR, eBR⟩ : ∃ BR : Nat, mnI w n = -(BR : Int) := ⟨(- mnI w n).toNat, by omega⟩
  have hS2 : S = BL + BR := by omega
  have hBL : ∀ j, j < n → w j ≤ (BL : Int) := fun j hj => by rw [← eBL]; exact mxI_ge hj
  have hBR : ∀ j, j < n → -(BR : Int) ≤ w j := fun j hj => by rw [← eBR]; exact mnI_le hj
  have hw0 : ∀ j, j < n → w j ≠ 0 := fun j hj => (hw j hj).2.1
  have hlam : ∀ y, isMin 1 n S (fun _ => w) y → sP w y ≤ BR ∧ sN w y ≤ BL := fun y hy => ⟨lambert2 hy hw0 hBR, lambert2 (w := fun j => - w j) (isMin_neg hy) (fun j hj => by have := hw0 j hj; omega) (fun j hj => by have := hBL j hj; omega)⟩
  have e47 : ∀ τ, gS τ 0 47 = nI BL → gS τ 0 48 = nI BR → gS τ 0 47 + gS τ 0 48 = nI S := fun τ a b => by rw [a, b, nI_add, hS2]
  -- all totals
  have loop : ∀ m T F τ, T + m = max (S + 1) 2 → 2 ≤ T → fbW σ τ → gS τ 0 47 = nI BL → gS τ 0 48 = nI BR → (mgB1 n S w τ ∨ (mgB n F τ ∧ (∀ y, y ∈ F ↔ isMin 1 n S (fun _ => w) y ∧ sm y < T))) → am_X ri am_Lm IX11_findBases (d + 20) 130 [some (.ref 0), some (.int (nI n)), some (.int (nI (lfs w n))), some (.int (nI T)), none] [] τ Q := by
    have full : ∀ τ, fbW σ τ → mgB1 n S w τ → Q 0 τ := fun τ g1 g2 => H0 τ g1 g2.2
    have sort : ∀ F τ, fbW σ τ → mgB n F τ → (∀ y, y ∈ F ↔ isMin 1 n S (fun _ => w) y) → am_X ri am_Lm IX11_findBases (d + 20) 183 [some (.ref 0), some (.int (nI n)), some (.int (nI (lfs w n))), some (.int (0 : Int32)), none] [] τ Q := by
      intro F τ g1 g2 hFm
      have hF2 : ∀ y ∈ F, sm y ≤ 16 ∧ y.length = n := fun y hy => by
        have := ((hFm y).mp hy).1
        exact ⟨by have := this.2.1; omega, this.1⟩
      refine m_sortB (d := d + 18) (sp := nI (lfs w n)) τ hn g2.2.1 g2.2.2 hF2 (fun σ' K f1 f2 f3 f4 f5 => ?_) F.length 0 [] τ (by omega) rfl (by simp) List.Pairwise.nil (fun p hp => absurd hp (Nat.not_lt_zero _)) fr_rfl
      have hlen : F.length = (sols 1 n S (fun _ => w)).length := Nat.le_antisymm (nd_le g2.2.2 fun x hx => sols_mem.mpr ((hFm x).mp hx)) (nd_le (nd_pair lxl_irrefl sols_sorted) fun x hx => (hFm x).mpr (sols_mem.mp hx))
      have hsol : K.map (fun k => F.getD k []) = sols 1 n S (fun _ => w) := by
        refine so_len lxl_irrefl lxl_trans (List.pairwise_map.mpr f4) sols_sorted (fun x hx => ?_) (by simp; omega)
        obtain ⟨k, hk, rfl⟩ := List.mem_map.mp hx
        have hk2 := f3 k hk
        rw [sols_mem, ← hFm, List.getD_eq_getElem?_getD, List.getElem?_eq_getElem hk2]
        exact List.getElem_mem hk2
      have hF16 := g2.2.1.2.1
      refine H1 σ' (fr_trans g1 (fr_mono f1 (by decide) (by decide) (by decide) (by decide))) (by omega) ⟨?_, by omega, fun i hi => ?_⟩
      · rw [f1.1 0 36 (by decide), g2.2.1.1, hlen]
      · have hiK : i < K.length := by omega
        have hKi : K.getD i 0 = K[i] := by rw [List.getD_eq_getElem?_getD, List.getElem?_eq_getElem hiK]; rfl
        have hk := f3 _ (List.getElem_mem hiK)
        refine ⟨K[i], by omega, by rw [← hKi]; exact f5 i hiK, fun j hj => ?_⟩
        rw [f1.2.1 24 (by decide), g2.2.1.2.2 _ hk j hj, ← hsol]
        congr 2
        simp [List.getD_eq_getElem?_getD, List.getElem?_map, List.getElem?_eq_getElem hiK]
    intro m
    induction m with
    | zero =>
      intro T F τ hT hT2 g1 g47 g48 g2
      refine vX11_findBases_130 ?_
      rw [e47 τ g47 g48]
      refine pk_lt S T (fun _ => ⟨fun z => ?_, fun z => ?_⟩) (fun h => by omega)
      · rcases g2 with g2 | ⟨g2, g3⟩
        · exact absurd z (by rw [g2.1]; decide)
        · exact sort F τ g1 g2 fun y => (g3 y).trans ⟨fun h => h.1, fun h => ⟨h, by have := h.1.2.1; omega⟩⟩
      · rcases g2 with g2 | ⟨g2, g3⟩
        · exact full τ g1 g2
        · exact absurd g2.1 z
    | succ m ih =>
      intro T F τ hT hT2 g1 g47 g48 g2
      refine vX11_findBases_130 ?_
      rw [e47 τ g47 g48]
      refine pk_lt S T (fun h => by omega) (fun _ => ⟨fun z => ⟨fun z2 => absurd z2 z, fun _ => ?_⟩, fun z => ?_⟩)
      · rcases g2 with g2 | ⟨g2, g3⟩
        · exact full τ g1 g2
        · exact absurd g2.1 z
      · rcases g2 with g2 | ⟨g2, g3⟩
        · exact absurd z (by rw [g2.1]; decide)
        · rw [nI_1, g47, g48, show d + 19 = (d + 17 - n) + n + 2 by omega]
          refine m_giveBase (S := S) (T := T) (BL := BL) (BR := BR) (by omega) (by omega) (by omega) hn (by omega) (by omega) hlam n [] T BR BL (d + 17 - n) 0 F τ _ (by simp) (by simp [sm]) (by simp [sd]) (by simp [sd]) rfl (wt_fr hw g1 (by decide)) (fun j hj => absurd hj (by simp)) (Or.inr ⟨g2, fun y hy => ⟨((g3 y).mp hy).1, Or.inl ((g3 y).mp hy).2⟩, fun y h1 h2 => (g3 y).mpr ⟨h1, h2⟩, fun σ' F' f1 f2 f3 f4 => ?_, fun σ' f1 f2 f3 => ?_⟩)
          · rw [show (d + 17 - n) + n + 2 = d + 19 by omega]
            refine ih (T + 1) F' σ' (by omega) (by omega) (fr_trans g1 (fr_mono f1 (by decide) (by decide) (by decide) (by decide))) (by rw [f1.1 0 47 (by decide)]; exact g47) (by rw [f1.1 0 48 (by decide)]; exact g48) (Or.inr ⟨f3, fun y => ?_⟩)
            rw [f4 y, g3 y]
            constructor
            · rintro (⟨h1, h2⟩ | ⟨h1, h2, _⟩)
              · exact ⟨h1, by omega⟩
              · exact ⟨h1, by omega⟩
            · rintro ⟨h1, h2⟩
              by_cases e : sm y = T
              · exact Or.inr ⟨h1, e, y, rfl⟩
              · exact Or.inl ⟨h1, by omega⟩
          · rw [show (d + 17 - n) + n + 2 = d + 19 by omega]
            exact ih (T + 1) F σ' (by omega) (by omega) (fr_trans g1 (fr_mono f1 (by decide) (by decide) (by decide) (by decide))) (by rw [f1.1 0 47 (by decide)]; exact g47) (by rw [f1.1 0 48 (by decide)]; exact g48) (Or.inl f3)
  -- no solution of one alone
  have no1 : ∀ y, isMin 1 n S (fun _ => w) y → 2 ≤ sm y := fun y hy => by
    refine Nat.lt_of_not_le fun h => ?_
    have h0 := hy.1.2.2.1
    have h1 : sm y = 1 := by omega
    have : ∃ i, i < y.length ∧ 0 < y.getD i 0 := by
      refine Classical.byContradiction fun c => ?_
      have := (dot_zero2 (w := w) y 0 fun k hk => by
        refine Nat.eq_zero_of_not_pos fun q => c ⟨k, hk, q⟩).2
      omega
    obtain ⟨i, hi, hpos⟩ := this
    have key : ∀ (x : List Nat) (i s : Nat), i < x.length → 0 < x.getD i 0 → sm x = 1 → dot w s x = w (s + i) := by
      intro x
      induction x with
      | nil => intro i s h; simp at h
      | cons a x ih =>
        intro i s hi hp hs
        cases i with
        | zero =>
          simp at hp
          simp only [sm] at hs
          have hz : sm x = 0 := by omega
          have := (dot_bd (a := fun _ => 0) (B := 0) (by decide) x 0 (fun _ _ _ => ⟨by decide, by decide⟩))
          have hx0 : ∀ k, k < x.length → x.getD k 0 = 0 := fun k _ => by have := big_sm x k; omega
          simp only [dot]
          rw [(dot_zero2 (w := w) x (s + 1) hx0).1, show a = 1 by omega]
          simp
        | succ i =>
          simp at hp hi
          have hb := big_sm x i
          simp only [List.getD_eq_getElem?_getD] at hb
          simp only [sm] at hs
          have ha : a = 0 := by omega
          simp only [dot]
          rw [ih i (s + 1) hi (by simpa using hp) (by omega), ha, show s + 1 + i = s + (i + 1) by omega]
          simp
    have e := key y i 0 hi hpos h1
    rw [hy.1.2.2.2 0 (by omega), Nat.zero_add] at e
    exact hw0 i (by rw [← hy.1.1]; exact hi) e.symm
  -- the numbers are looked through
  have first : ∀ m j τ, j + m = n → fbW σ τ → (gS τ 0 47).toInt = mxI w j → (gS τ 0 48).toInt = - mnI w j → am_X ri am_Lm IX11_findBases (d + 20) 14 [some (.ref 0), some (.int (nI n)), some (.int (nI (lfs w j))), some (.int (nI j)), none] [] τ Q := by
    intro m
    induction m with
    | zero =>
      intro j τ hj g1 g2 g3
      obtain rfl : j = n := by omega
      have hlj := (lfs_len (w := w) j).2.2
      have hm16 : lfs w j * (j - lfs w j) ≤ 256 := by
        have := Nat.mul_le_mul (show lfs w j ≤ 16 by omega) (show j - lfs w j ≤ 16 by omega)
        omega
      have q47 : gS τ 0 47 = nI BL := nI_ofT (by rw [g2, eBL])
      have q48 : gS τ 0 48 = nI BR := nI_ofT (by rw [g3, eBR]; omega)
      refine vX11_findBases_14 (pk_le j j (fun _ => ?_) (fun h => by omega))
      rw [n_sub hlj (by omega), pk_mul]
      have st : ∀ v, fbW σ (wS (wS τ 0 27 v) 0 36 (0 : Int32)) := fun v => fr_wS (fr_wS g1 (by decide)) (by decide)
      refine pk_le (lfs w j * (j - lfs w j)) 16 (fun h => ⟨Or.inl rfl, ?_⟩) (fun h => ⟨Or.inr rfl, ?_⟩)
      · refine loop (max (S + 1) 2 - 2) 2 [] _ (by omega) (Nat.le_refl _) (st _) (by rw [wS_ne (by omega), wS_ne (by omega)]; exact q47) (by rw [wS_ne (by omega), wS_ne (by omega)]; exact q48) (Or.inr ⟨⟨by rw [wS_ne (by omega), wS_at], ⟨wS_at _ _ _ _, by simp, fun i hi => absurd hi (by simp)⟩, List.Pairwise.nil⟩, fun y => ⟨fun h => absurd h (by simp), fun h => ?_⟩⟩)
        have := no1 y h.1
        omega
      · refine loop (max (S + 1) 2 - 2) 2 [] _ (by omega) (Nat.le_refl _) (st _) (by rw [wS_ne (by omega), wS_ne (by omega)]; exact q47) (by rw [wS_ne (by omega), wS_ne (by omega)]; exact q48) (Or.inl ⟨by rw [wS_ne (by omega), wS_at], ?_⟩)
        have := many_sols (S := S) (w := w) hw0 hBL hBR (by omega)
        omega
    | succ m ih =>
      intro j τ hj g1 g2 g3
      have hwt := (wt_fr hw g1 (by decide)) j (by omega)
      have bmx := mxI_bd (f := w) (B := 8) (by decide) (j := j) fun i hi => (hw i (by omega)).2.2.2
      have bmn := mnI_bd (f := w) (B := -8) (by decide) (j := j) fun i hi => (hw i (by omega)).2.2.1
      have eneg := t_neg hwt.1 (by omega)
      have nx : ∀ a b c, (a : Int32).toInt = mxI w (j + 1) → (b : Int32).toInt = - mnI w (j + 1) → c = nI (lfs w (j + 1)) → am_X ri am_Lm IX11_findBases (d + 20) 14 [some (.ref 0), some (.int (nI n)), some (.int c), some (.int (nI (j + 1))), none] [] (wS (wS τ 0 47 a) 0 48 b) Q := fun a b c e1 e2 e3 => by
        rw [e3]
        exact ih (j + 1) _ (by omega) (fr_wS (fr_wS g1 (by decide)) (by decide)) (by rw [wS_ne (by omega), wS_at]; exact e1) (by rw [wS_at]; exact e2)
      have l0 : ¬ 0 < w j → nI (lfs w j) + 0 = nI (lfs w (j + 1)) := fun h => by
        simp only [lfs]
        rw [if_neg h]
        exact nI_add _ 0
      have l1 : 0 < w j → nI (lfs w j) + 1 = nI (lfs w (j + 1)) := fun h => by
        simp only [lfs]
        rw [if_pos h]
        exact nI_1 _
      have c1 : ∀ z : gA τ 23 j ≤ gS τ 0 47, (gS τ 0 47).toInt = mxI w (j + 1) := fun z => by
        rw [i_le, hwt.1, g2] at z
        simp only [mxI]
        rw [if_neg (by omega), g2]
      have c2 : ∀ z : ¬ gA τ 23 j ≤ gS τ 0 47, (gA τ 23 j).toInt = mxI w (j + 1) := fun z => by
        rw [i_le, hwt.1, g2] at z
        simp only [mxI]
        rw [if_pos (by omega), hwt.1]
      have c3 : ∀ z : - gA τ 23 j ≤ gS τ 0 48, (gS τ 0 48).toInt = - mnI w (j + 1) := fun z => by
        rw [i_le, eneg, g3] at z
        simp only [mnI]
        rw [if_neg (by omega), g3]
      have c4 : ∀ z : ¬ - gA τ 23 j ≤ gS τ 0 48, (- gA τ 23 j).toInt = - mnI w (j + 1) := fun z => by
        rw [i_le, eneg, g3] at z
        simp only [mnI]
        rw [if_pos (by omega), eneg]
      refine vX11_findBases_14 (pk_le n j (fun h => by omega) (fun _ => ⟨pk_in j 32 (by omega), ?_⟩))
      rw [nI_clamp (n := j) (by omega), nI_1 j]
      have v32 : vp_in (nI j) 32 := pk_in j 32 (by omega)
      refine ⟨fun z => ?_, fun z => ?_⟩
      · rw [i_le, hwt.1, l_0] at z
        exact ⟨v32, fun z1 => ⟨v32, fun z2 => nx _ _ _ (c1 z1) (c3 z2) (l0 (by omega)), fun z2 => ⟨v32, nx _ _ _ (c1 z1) (c4 z2) (l0 (by omega))⟩⟩, fun z1 => ⟨v32, v32, fun z2 => nx _ _ _ (c2 z1) (c3 z2) (l0 (by omega)), fun z2 => ⟨v32, nx _ _ _ (c2 z1) (c4 z2) (l0 (by omega))⟩⟩⟩
      · rw [i_le, hwt.1, l_0] at z
        exact ⟨v32, fun z1 => ⟨v32, fun z2 => nx _ _ _ (c1 z1) (c3 z2) (l1 (by omega)), fun z2 => ⟨v32, nx _ _ _ (c1 z1) (c4 z2) (l1 (by omega))⟩⟩, fun z1 => ⟨v32, v32, fun z2 => nx _ _ _ (c2 z1) (c3 z2) (l1 (by omega)), fun z2 => ⟨v32, nx _ _ _ (c2 z1) (c4 z2) (l1 (by omega))⟩⟩⟩
  refine vX11_findBases (first n 0 _ (by omega) (fr_wS (fr_wS fr_rfl (by decide)) (by decide)) ?_ ?_)
  · rw [wS_ne (by omega), wS_at]; rfl
  · rw [wS_at]; rfl
end FB
