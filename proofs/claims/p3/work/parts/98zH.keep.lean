/-! ===== what a call keeps ===== -/
section KX
variable {σ τ : am_S} {S : List (Nat × Nat)} {A J P : List Nat} {c s : Nat}
theorem Tx_gw {bs : List Nat} (h : Tx bs σ) (g : gw S A J P c s σ τ) (h1 : (7, 2) ∉ S) (h2 : 8 ∉ A) : Tx bs τ := ⟨(gw_S g (by omega) h1).trans h.1, fun i b hb => by rw [gw_A g h2]; exact h.2 i b hb⟩
theorem Wx_gw {ws : List Nat} (h : Wx σ ws) (g : gw S A J P c s σ τ) (h1 : (9, 1) ∉ S) (h2 : 10 ∉ A) : Wx τ ws := ⟨h.1, (gw_S g (by omega) h1).trans h.2.1, fun i w hw => by rw [gw_A g h2]; exact h.2.2 i w hw⟩
theorem sys_gw {R U : Nat} {A0 : Nat → Nat → Int} {G : List (List Nat)} (h : bs28 R U A0 σ ∧ fs28 U G σ) (g : gw S A J P c s σ τ) (h1 : ∀ x ∈ [((28 : Nat), (0 : Nat)), (28, 1), (28, 8), (28, 9), (28, 11)], x ∉ S) (h2 : ∀ x ∈ [(29 : Nat), 34], x ∉ A) : bs28 R U A0 τ ∧ fs28 U G τ := by
  obtain ⟨⟨a1, a2, a3, a4, a5, a6, a7⟩, b1, b2⟩ := h
  have e : ∀ k, (28, k) ∈ [((28 : Nat), (0 : Nat)), (28, 1), (28, 8), (28, 9), (28, 11)] → gS τ 28 k = gS σ 28 k := fun k hk => gw_S g (by omega) (h1 _ hk)
  exact ⟨⟨(e 0 (by decide)).trans a1, (e 1 (by decide)).trans a2, (e 8 (by decide)).trans a3, (e 9 (by decide)).trans a4, a5, a6, fun r hr j hj => by rw [gw_A g (h2 29 (by decide))]; exact a7 r hr j hj⟩, (e 11 (by decide)).trans b1, fun i hi hi2 j hj => by rw [gw_A g (h2 34 (by decide))]; exact b2 i hi hi2 j hj⟩
end KX
/-- what the reference keeps -/
def mK (S : List (Nat × Nat)) (A : List Nat) (Z : Nat → Prop) (σ τ : am_S) : Prop := (∀ n k, (n, k) ∉ S → gS τ n k = gS σ n k) ∧ (∀ n, 5 ≤ n → n ∉ A → gA τ n = gA σ n) ∧ (∀ n, 1 ≤ n → n ≤ 4 → ∀ i, Z i → gA τ n i = gA σ n i) ∧ τ.2 = σ.2
section KM
variable {σ τ : am_S} {S : List (Nat × Nat)} {A : List Nat} {Z : Nat → Prop}
theorem mK_rfl : mK S A Z σ σ := ⟨fun _ _ _ => rfl, fun _ _ _ => rfl, fun _ _ _ _ _ => rfl, rfl⟩
theorem mK_fr {J P : List Nat} (f : fr S A J P σ τ) (h : ∀ x ∈ [(1 : Nat), 2, 3, 4], x ∉ A) : mK S A (fun _ => True) σ τ := ⟨f.1, fun n _ hn => f.2.1 n hn, fun n a b i _ => by rw [f.2.1 n (h n (by simp; omega))], f.2.2.2.2.2⟩
theorem mK_mW (g : mW σ τ) : mK [(0, 4), (0, 5), (0, 7)] [5, 7] (fun i => 640 ≤ i ∧ i < 17280) σ τ := ⟨g.1, fun n a z => g.2.1 n (fun w => z (by simp at w ⊢; omega)), fun n a b i z => g.2.2.1 n a b i z.1 z.2, g.2.2.2⟩
theorem mK_mRd (g : mRd σ τ) : mK [(0, 4), (0, 5), (0, 7), (0, 9), (0, 10), (0, 11), (0, 12)] [5, 7] (fun i => 640 ≤ i ∧ i < 17280) σ τ := ⟨g.1, fun n a z => g.2.1 n (fun w => z (by simp at w ⊢; omega)), fun n a b i z => g.2.2.1 n a b i z.1 z.2, g.2.2.2⟩
theorem mK_mI (g : mI σ τ) : mK [(0, 4), (0, 5), (0, 7)] [5, 7, 17] (fun i => 640 ≤ i ∧ i < 17280) σ τ := ⟨g.1, fun n a z => g.2.1 n (fun w => z (by simp at w ⊢; omega)), fun n a b i z => g.2.2.1 n a b i z.1 z.2, g.2.2.2⟩
theorem mK_mMt (g : mMt σ τ) : mK [(0, 4), (0, 5), (0, 7), (0, 16), (0, 17), (0, 26), (0, 27)] [5, 9, 10, 11, 12, 13, 14, 15, 16] (fun i => i < 640 ∨ (16640 ≤ i ∧ i < 17280)) σ τ := ⟨g.1, g.2.1, fun n _ b i z => g.2.2.1 n (by omega) i z, g.2.2.2⟩
theorem mK_mX {lo hi : Nat} (g : mX S A lo hi σ τ) : mK S A (fun i => ¬ (lo ≤ i ∧ i < hi)) σ τ := ⟨g.1, g.2.1, fun n _ b i z => g.2.2.1 n i (by omega) z, g.2.2.2⟩
theorem Tm_mK {bs : List Nat} (h : Tm' bs σ) (g : mK S A Z σ τ) (h1 : (0, 9) ∉ S) (h2 : 6 ∉ A) : Tm' bs τ := ⟨(g.1 0 9 h1).trans h.1, fun i b hb => by rw [g.2.1 6 (by omega) h2]; exact h.2 i b hb⟩
theorem Wm_mK {ws : List Nat} (h : Wm σ ws) (g : mK S A Z σ τ) (h1 : (0, 15) ∉ S) (h2 : 8 ∉ A) : Wm τ ws := ⟨h.1, (g.1 0 15 h1).trans h.2.1, fun i w hw => by rw [g.2.1 8 (by omega) h2]; exact h.2.2 i w hw⟩
theorem sysm_mK {R U : Nat} {A0 : Nat → Nat → Int} {G : List (List Nat)} (h : ms R U A0 σ ∧ mb U G σ) (g : mK S A Z σ τ) (h1 : ∀ x ∈ [((0 : Nat), (29 : Nat)), (0, 30), (0, 32)], x ∉ S) (h2 : ∀ x ∈ [(18 : Nat), 19, 21], x ∉ A) : ms R U A0 τ ∧ mb U G τ := by
  obtain ⟨⟨a1, a2, a3, a4, a5, a6⟩, b1, b2⟩ := h
  refine ⟨⟨(g.1 0 29 (h1 _ (by decide))).trans a1, (g.1 0 30 (h1 _ (by decide))).trans a2, a3, a4, a5, fun r hr j hj => by rw [g.2.1 18 (by omega) (h2 _ (by decide))]; exact a6 r hr j hj⟩, (g.1 0 32 (h1 _ (by decide))).trans b1, fun i hi => ?_⟩
  rw [g.2.1 19 (by omega) (h2 _ (by decide)), g.2.1 21 (by omega) (h2 _ (by decide))]
  exact b2 i hi
theorem Um_mK {u : Option (Nat × List (Tm × Int))} (h : Um u σ) (g : mK S A Z σ τ) (h1 : ∀ x ∈ [((0 : Nat), (36 : Nat)), (0, 37), (0, 38), (0, 39), (0, 40), (0, 41)], x ∉ S) (h2 : ∀ x ∈ [(22 : Nat), 23, 24, 25, 26, 30], x ∉ A) (h3 : ∀ i, 16640 ≤ i → i < 17280 → Z i) : Um u τ := by
  cases u with
  | none => exact (g.1 0 37 (h1 _ (by decide))).trans h
  | some p =>
    obtain ⟨hk, hU, a1, a2, a3, a4, a5, a6, a7⟩ := h
    have e : ∀ k, (0, k) ∈ [((0 : Nat), (36 : Nat)), (0, 37), (0, 38), (0, 39), (0, 40), (0, 41)] → gS τ 0 k = gS σ 0 k := fun k hk => g.1 0 k (h1 _ hk)
    have f : ∀ n, n ∈ [(22 : Nat), 23, 24, 25, 26, 30] → gA τ n = gA σ n := fun n hn => g.2.1 n (by simp at hn; omega) (h2 n hn)
    refine ⟨hk, hU, (e 39 (by decide)).trans a1, ⟨(e 40 (by decide)).trans a2.1, (e 41 (by decide)).trans a2.2.1, fun j q hq => ?_⟩, ⟨(e 36 (by decide)).trans a3.1, a3.2.1, fun i hi => ?_⟩, fun b hb => by rw [f 30 (by decide)]; exact a4 b hb, (e 38 (by decide)).trans a5, (e 37 (by decide)).trans a6, fun i s hs => by rw [f 26 (by decide)]; exact a7 i s hs⟩
    · obtain ⟨b1, b2, b3⟩ := a2.2.2 j q hq
      rw [f 22 (by decide), f 23 (by decide)]
      have hj := get_lt hq
      have hn := hU.1
      have hl := (hU.2.2.1 q (get_mem hq)).2.1.1
      exact ⟨b1, b2, fun z => seg_move (fun a h1 h4 i hi => g.2.2.1 a h1 h4 _ (h3 _ (by omega) (by omega))) (b3 z)⟩
    · rw [f 24 (by decide), f 25 (by decide)]
      exact a3.2.2 i hi
theorem MR_mK (h : MRf σ) (g : mK S A Z σ τ) (h1 : ∀ x ∈ [((0 : Nat), (16 : Nat)), (0, 17)], x ∉ S) (h2 : ∀ x ∈ [(9 : Nat), 11], x ∉ A) (h3 : ∀ i, 640 ≤ i → i < 16640 → Z i) : MRf τ := MR_kR h ⟨g.1 0 16 (h1 _ (by decide)), g.1 0 17 (h1 _ (by decide)), g.2.1 9 (by omega) (h2 _ (by decide)), g.2.1 11 (by omega) (h2 _ (by decide)), fun n a b i z w => g.2.2.1 n a b i (h3 i z w)⟩
end KM
/-- the class between two calls -/
def CI (n : Nat) (bs : List Nat) (R U : Nat) (A : Nat → Nat → Int) (G : List (List Nat)) (σ : am_S) : Prop := Tx bs σ ∧ (bs28 R U A σ ∧ fs28 U G σ) ∧ (∃ V, Sx σ V) ∧ lts σ ∧ gS σ 3 3 = nI 0 ∧ (∃ ws, Wx σ ws) ∧ (∃ u, Ux u σ) ∧ MG σ ∧ bud (400 * n) (2600 * n) σ
/-- the reference between two calls -/
def RI (bs : List Nat) (R U : Nat) (A : Nat → Nat → Int) (G : List (List Nat)) (σ : am_S) : Prop := Tm' bs σ ∧ (ms R U A σ ∧ mb U G σ) ∧ (∃ W, Sm σ W) ∧ (∃ ws, Wm σ ws) ∧ (∃ u, Um u σ) ∧ MRf σ
theorem bud_dn {n c s : Nat} {σ τ : am_S} {S : List (Nat × Nat)} {A J P : List Nat} (h : bud (400 * (n + 1)) (2600 * (n + 1)) σ) (g : gw S A J P c s σ τ) (hc : c ≤ 400) (hs : s ≤ 2600) : bud (400 * n) (2600 * n) τ := bud_gw (c := c) (s := s) ⟨by have := h.1; omega, by have := h.2.1; omega, h.2.2.1, h.2.2.2⟩ g
theorem CI_dn {n : Nat} {bs : List Nat} {R U : Nat} {A : Nat → Nat → Int} {G : List (List Nat)} {σ : am_S} (h : CI (n + 1) bs R U A G σ) : CI n bs R U A G σ := ⟨h.1, h.2.1, h.2.2.1, h.2.2.2.1, h.2.2.2.2.1, h.2.2.2.2.2.1, h.2.2.2.2.2.2.1, h.2.2.2.2.2.2.2.1, bud_dn h.2.2.2.2.2.2.2.2 (gw_rfl : gw [] [] [] [] 0 0 σ σ) (by decide) (by decide)⟩
