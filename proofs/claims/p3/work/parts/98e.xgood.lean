/-! ===== class Unifying: ways, good sets, the bits of one ===== -/
theorem nx_i (n : Nat) : nI n = Int32.ofInt n := Int32.ofInt_eq_ofNat.symm
theorem nx_z {a : Nat} (h : a < 2 ^ 31) : nI a = 0 ↔ a = 0 := by
  rw [← nI_0]
  exact nI_eq h (by decide)
def gq (v n m : Nat) (cov : Nat → Nat) (gr : Nat → Int) (σ : am_S) : Prop := gS σ 36 11 = nI m ∧ m ≤ 16 ∧ gS σ 35 7 = nI n ∧ gS σ 35 8 = nI v ∧ v ≤ 6 ∧ v ≤ n ∧ n ≤ 16 ∧ ∀ b, b < m → gA σ 45 b = nI (cov b) ∧ (gA σ 46 b).toInt = gr b ∧ cov b < 64 ∧ (gr b = -2 ∨ gr b = -1 ∨ ∃ g : Nat, gr b = g ∧ v ≤ g ∧ g < n)
section XG
variable {σ τ : am_S} {v n m : Nat} {cov : Nat → Nat} {gr : Nat → Int}
abbrev w47 (σ τ : am_S) : Prop := gw [] [47] [] [] 0 0 σ τ
theorem gq_47 (h : gq v n m cov gr σ) (g : w47 σ τ) : gq v n m cov gr τ := by
  obtain ⟨h1, h2, h3, h4, h5, h6, h7, h8⟩ := h
  refine ⟨by rw [gw_S g (by omega) (by simp)]; exact h1, h2, by rw [gw_S g (by omega) (by simp)]; exact h3, by rw [gw_S g (by omega) (by simp)]; exact h4, h5, h6, h7, fun b hb => ?_⟩
  rw [gw_A g (by decide), gw_A g (by decide)]
  exact h8 b hb
theorem x_ways {d fm out lack : Nat} {Q : Int32 → am_S → Prop} (h : gq v n m cov gr σ) (hf : fm ≤ m) (ho : out < 64) (hl : lack < 2 ^ 16) (H : ∀ τ, w47 σ τ → Q (nI (ways cov gr v n fm out lack)) τ) : am_K ri am_Lx IX9_waysWithout (d + 1) [.ref 35, .int (nI fm), .int (nI out), .int (nI lack)] σ Q := by
  have hq0 := h
  obtain ⟨h1, h2, h3, h4, h5, h6, h7, h8⟩ := h
  have last : ∀ q k τ, k + q = n - v → w47 σ τ → (∀ j, v ≤ j → j < n → gA τ 47 j = nI (wct cov gr out j fm)) → am_X ri am_Lx IX9_waysWithout (d + 1) 108 [some (.ref 35), some (.int (nI fm)), some (.int (nI out)), some (.int (nI lack)), some (.int (nI (wf2 cov gr out fm * wpr (fun j => wct cov gr out j fm) lack v k))), some (.int (nI (v + k)))] [] τ Q := by
    intro q
    induction q with
    | zero =>
      intro k τ hk g1 g2
      have hq := gq_47 hq0 g1
      obtain rfl : k = n - v := by omega
      exact vX9_waysWithout_108 (pk_le n (v + (n - v)) (fun _ => H τ g1) (fun h => by omega) hq.2.2.1 rfl (by omega) (by omega))
    | succ q ih =>
      intro k τ hk g1 g2
      have hq := gq_47 hq0 g1
      have q2 := ih (k + 1) τ (by omega) g1 g2
      simp only [wpr] at q2
      refine vX9_waysWithout_108 (pk_le n (v + k) (fun h => by omega) (fun _ => ?_) hq.2.2.1 rfl (by omega) (by omega))
      rw [nI_1, nI_clamp (n := v + k) (by omega)]
      by_cases hb : lack.testBit (v + k) = true
      · refine ⟨fun z => absurd ((nx_tb0 (by omega) (by omega)).mp z) (by rw [hb]; simp), fun _ => ⟨pk_in (v + k) 16 (by omega), ?_⟩⟩
        rw [g2 _ (by omega) (by omega), pk_mul]
        rw [if_pos hb, ← Nat.mul_assoc] at q2
        exact q2
      · refine ⟨fun _ => ?_, fun z => absurd ((nx_tb0 (by omega) (by omega)).mpr (by simpa using hb)) z⟩
        rw [if_neg hb, Nat.mul_one] at q2
        rw [Int32.mul_one]
        exact q2
  have mid : ∀ q b τ, b + q = fm → w47 σ τ → (∀ j, v ≤ j → j < n → gA τ 47 j = nI (wct cov gr out j b)) → am_X ri am_Lx IX9_waysWithout (d + 1) 32 [some (.ref 35), some (.int (nI fm)), some (.int (nI out)), some (.int (nI lack)), some (.int (nI (wf2 cov gr out b))), some (.int (nI b))] [] τ Q := by
    intro q
    induction q with
    | zero =>
      intro b τ hb g1 g2
      have hq := gq_47 hq0 g1
      obtain rfl : b = fm := by omega
      refine vX9_waysWithout_32 (pk_le b b (fun _ => ?_) (fun h => by omega))
      rw [hq.2.2.2.1]
      have := last (n - v) 0 τ (by omega) g1 g2
      simp only [wpr, Nat.mul_one, Nat.add_zero] at this
      exact this
    | succ q ih =>
      intro b τ hb g1 g2
      have hq := gq_47 hq0 g1
      obtain ⟨c1, c2, c3, c4⟩ := hq.2.2.2.2.2.2.2 b (by omega)
      refine vX9_waysWithout_32 (pk_le fm b (fun h => by omega) (fun _ => ?_))
      rw [nI_clamp (n := b) (by omega), nI_1, c1, nx_and]
      have hlt : cov b &&& out < 2 ^ 31 := Nat.lt_of_le_of_lt Nat.and_le_left (by omega)
      have next : ∀ τ2, w47 σ τ2 → (∀ j, v ≤ j → j < n → gA τ2 47 j = nI (wct cov gr out j (b + 1))) → am_X ri am_Lx IX9_waysWithout (d + 1) 32 [some (.ref 35), some (.int (nI fm)), some (.int (nI out)), some (.int (nI lack)), some (.int (nI (wf2 cov gr out (b + 1)))), some (.int (nI (b + 1)))] [] τ2 Q := fun τ2 => ih (b + 1) τ2 (by omega)
      by_cases h0 : cov b &&& out = 0
      · refine ⟨pk_in b 16 (by omega), fun z => absurd ((nx_z hlt).mpr h0) z, fun _ => ⟨pk_in b 16 (by omega), ?_⟩⟩
        rcases c4 with c4 | c4 | ⟨g, c4, c5, c6⟩
        · refine ⟨fun _ => ⟨pk_in b 16 (by omega), fun _ => ?_, fun z => absurd (by rw [i_lt, c2, c4]; decide) z⟩, fun z => ?_⟩
          · have e1 : wf2 cov gr out (b + 1) = wf2 cov gr out b := by
              simp only [wf2]
              rw [if_neg (by omega)]
            rw [← e1]
            refine next τ g1 fun j j1 j2 => ?_
            simp only [wct]
            rw [if_neg (by omega)]
            exact g2 j j1 j2
          · rw [i_eq, c2, c4] at z
            exact absurd z (by decide)
        · refine ⟨fun z => absurd (by rw [i_eq, c2, c4]; decide) z, fun _ => ?_⟩
          rw [show (2 : Int32) = nI 2 from rfl, pk_mul]
          have e1 : wf2 cov gr out (b + 1) = wf2 cov gr out b * 2 := by
            simp only [wf2]
            rw [if_pos ⟨h0, c4⟩]
          rw [← e1]
          refine next τ g1 fun j j1 j2 => ?_
          simp only [wct]
          rw [if_neg (by omega)]
          exact g2 j j1 j2
        · have e46 : gA τ 46 b = nI g := nI_ofT (by rw [c2, c4])
          have e1 : wf2 cov gr out (b + 1) = wf2 cov gr out b := by
            simp only [wf2]
            rw [if_neg (by omega)]
          rw [e46, nI_clamp (n := g) (by omega)]
          refine ⟨fun _ => ⟨pk_in b 16 (by omega), fun z => absurd z (nI_pos (by omega)), fun _ => ⟨pk_in b 16 (by omega), pk_in g 16 (by omega), pk_in g 16 (by omega), ?_⟩⟩, fun z => ?_⟩
          · rw [← e1, g2 g c5 c6, nI_1]
            refine next _ (gw_wA g1 (by simp)) fun j j1 j2 => ?_
            simp only [wct]
            by_cases e : j = g
            · subst e
              rw [wA_at, if_pos ⟨h0, c4⟩]
            · rw [wA_ne (by omega), if_neg (by omega)]
              exact g2 j j1 j2
          · rw [i_eq, nI_toInt (by omega), l_m1] at z
            omega
      · have e1 : wf2 cov gr out (b + 1) = wf2 cov gr out b := by
          simp only [wf2]
          rw [if_neg (fun z => h0 z.1)]
        refine ⟨pk_in b 16 (by omega), fun _ => ?_, fun z => absurd ((nx_z hlt).mp z) h0⟩
        rw [← e1]
        refine next τ g1 fun j j1 j2 => ?_
        simp only [wct]
        rw [if_neg (fun z => h0 z.1)]
        exact g2 j j1 j2
  have first : ∀ q j τ, j + q = n → w47 σ τ → (∀ i, i < j → gA τ 47 i = 0) → am_X ri am_Lx IX9_waysWithout (d + 1) 3 [some (.ref 35), some (.int (nI fm)), some (.int (nI out)), some (.int (nI lack)), some (.int (nI j)), none] [] τ Q := by
    intro q
    induction q with
    | zero =>
      intro j τ hj g1 g2
      have hq := gq_47 hq0 g1
      exact vX9_waysWithout_3 (pk_le n j (fun _ => mid fm 0 τ (by omega) g1 fun i _ hi => by rw [g2 i (by omega)]; rfl) (fun h => by omega) hq.2.2.1 rfl (by omega) (by omega))
    | succ q ih =>
      intro j τ hj g1 g2
      have hq := gq_47 hq0 g1
      refine vX9_waysWithout_3 (pk_le n j (fun h => by omega) (fun _ => ⟨pk_in j 16 (by omega), ?_⟩) hq.2.2.1 rfl (by omega) (by omega))
      rw [nI_clamp (n := j) (by omega), nI_1]
      refine ih (j + 1) _ (by omega) (gw_wA g1 (by simp)) fun i hi => ?_
      by_cases e : i = j
      · subst e
        exact wA_at _ _ _ _
      · rw [wA_ne (by omega)]
        exact g2 i (by omega)
  exact vX9_waysWithout (first n 0 σ (by omega) gw_rfl fun i hi => absurd hi (Nat.not_lt_zero _))
theorem pop_par (o : Nat) (h : o < 64) : ((nI (pop 22 o) &&& (1 : Int32)) = 0) ↔ sgn o = 1 := by
  have : ∀ o, o < 64 → (((nI (pop 22 o) &&& (1 : Int32)) = 0) ↔ sgn o = 1) := by decide +kernel
  exact this o h
theorem sgn_or (o : Nat) : sgn o = 1 ∨ sgn o = -1 := by
  unfold sgn
  split
  · exact Or.inl rfl
  · exact Or.inr rfl
/-- the last loop of goodSets -/
theorem x_sets {d fm bare lack : Nat} {ch : Int32} {Q : Int32 → am_S → Prop} (h : gq v n m cov gr σ) (hf : fm ≤ m) (hb : bare < 64) (hl : lack < 2 ^ 16) (hr : ∀ j, lack.testBit j = true → v ≤ j ∧ j < n) (H : ∀ τ, w47 σ τ → Q (nI (gls cov gr fm bare lack).length) τ) : am_X ri am_Lx IX9_goodSets (d + 2) 124 [some (.ref 35), some (.int (nI fm)), some (.int ch), some (.int (nI bare)), some (.int (nI lack)), some (.int (0 : Int32)), some (.int (0 : Int32)), none] [] σ Q := by
  have hq0 := h
  obtain ⟨h1, h2, h3, h4, h5, h6, h7, h8⟩ := h
  have loop : ∀ q o τ, o + q = bare + 1 → w47 σ τ → am_X ri am_Lx IX9_goodSets (d + 2) 124 [some (.ref 35), some (.int (nI fm)), some (.int ch), some (.int (nI bare)), some (.int (nI lack)), some (.int (Int32.ofInt (sbs bare (fun o => sgn o * (ways cov gr v n fm o lack : Nat)) o))), some (.int (nI o)), none] [] τ Q := by
    intro q
    induction q with
    | zero =>
      intro o τ ho g1
      obtain rfl : o = bare + 1 := by omega
      refine vX9_goodSets_124 (pk_lt bare (bare + 1) (fun _ => ?_) (fun h => by omega))
      rw [← sbs_top hb 64 (by omega) (Nat.le_refl _), gls_count fm bare lack hb (by omega) hr (fun c hc => (h8 c (by omega)).2.2.2), ← nx_i]
      exact H τ g1
    | succ q ih =>
      intro o τ ho g1
      have hq := gq_47 hq0 g1
      have hadn : adn o bare < 2 ^ 31 := Nat.lt_of_le_of_lt (adn_le _ _) (by omega)
      refine vX9_goodSets_124 (pk_lt bare o (fun h => by omega) (fun _ => ?_))
      rw [nx_adn, nI_1]
      by_cases h0 : adn o bare = 0
      · refine ⟨fun z => absurd ((nx_z hadn).mpr h0) z, fun _ => x_ways (d := d) hq hf (by omega) hl fun τ2 g2 => x_bitCount (d := d) (by omega) ?_⟩
        have q2 := ih (o + 1) τ2 (by omega) (gw_trans g1 g2)
        simp only [sbs] at q2
        rw [if_pos h0] at q2
        rcases sgn_or o with s | s
        · refine ⟨fun z => absurd ((pop_par o (by omega)).mpr s) z, fun _ => ?_⟩
          rw [nx_i (ways cov gr v n fm o lack), ← Int32.ofInt_add]
          rw [s, Int.one_mul] at q2
          exact q2
        · refine ⟨fun _ => ?_, fun z => absurd ((pop_par o (by omega)).mp z) (by rw [s]; decide)⟩
          rw [nx_i (ways cov gr v n fm o lack), ← Int32.ofInt_neg, ← Int32.ofInt_add]
          rw [s, Int.neg_mul, Int.one_mul] at q2
          exact q2
      · refine ⟨fun _ => ?_, fun z => absurd ((nx_z hadn).mp z) h0⟩
        have q2 := ih (o + 1) τ (by omega) g1
        simp only [sbs] at q2
        rw [if_neg h0, Int.add_zero] at q2
        exact q2
  exact loop (bare + 1) 0 σ (by omega) gw_rfl
/-- what the chosen sets from one on leave: the variables still bare, the grounds still lacking -/
def lvB (cov : Nat → Nat) (v m fm ch : Nat) (bare : Nat) : Prop := ∀ j, bare.testBit j = true ↔ j < v ∧ ∀ b, fm ≤ b → b < m → ch.testBit b = true → (cov b).testBit j = false
def lvL (gr : Nat → Int) (v n m fm ch : Nat) (lack : Nat) : Prop := ∀ j, lack.testBit j = true ↔ (v ≤ j ∧ j < n) ∧ ∀ b, fm ≤ b → b < m → ch.testBit b = true → gr b ≠ j
def okC (gr : Nat → Int) (m fm ch : Nat) : Prop := (∀ b, fm ≤ b → b < m → ch.testBit b = true → gr b ≠ -2) ∧ ∀ b c, fm ≤ b → b < c → c < m → ch.testBit b = true → ch.testBit c = true → 0 ≤ gr b → gr b ≠ gr c
theorem bits_lt {a k : Nat} (h : ∀ j, a.testBit j = true → j < k) : a < 2 ^ k := by
  refine Nat.lt_pow_two_of_testBit a fun i hi => ?_
  cases q : a.testBit i with
  | false => rfl
  | true => have := h i q; omega
theorem tb_eq {a b : Nat} (h : ∀ j, a.testBit j = true ↔ b.testBit j = true) : a = b := by
  apply Nat.eq_of_testBit_eq
  intro j
  have := h j
  cases q : a.testBit j with
  | false =>
    cases r : b.testBit j with
    | false => rfl
    | true => rw [q] at this; exact absurd (this.mpr r) (by simp)
  | true => exact (this.mp q).symm
theorem tb_le {a b : Nat} (h : ∀ j, a.testBit j = true → b.testBit j = true) : a ≤ b := by
  have : a &&& b = a := by
    apply Nat.eq_of_testBit_eq
    intro j
    rw [Nat.testBit_and]
    cases q : a.testBit j with
    | false => simp
    | true => simp [h j q]
  rw [← this]
  exact Nat.and_le_right
theorem x_goodSets {d fm ch bare lack : Nat} {Q : Int32 → am_S → Prop} (h : gq v n m cov gr σ) (hf : fm ≤ m) (hch : ch < 2 ^ 31) (ho : okC gr m fm ch) (hB : lvB cov v m fm ch bare) (hL : lvL gr v n m fm ch lack) (H : ∀ τ, w47 σ τ → Q (nI (gls cov gr fm bare lack).length) τ) : am_K ri am_Lx IX9_goodSets (d + 2) [.ref 35, .int (nI fm), .int (nI ch)] σ Q := by
  have hq0 := h
  obtain ⟨h1, h2, h3, h4, h5, h6, h7, h8⟩ := h
  have hb64 : bare < 64 := by
    have := bits_lt (a := bare) (k := 6) fun j hj => by have := ((hB j).mp hj).1; omega
    omega
  have hl16 : lack < 2 ^ 16 := bits_lt fun j hj => by have := ((hL j).mp hj).1; omega
  have loop : ∀ q b B L, b + q = m → fm ≤ b → lvB cov v b fm ch B → lvL gr v n b fm ch L → am_X ri am_Lx IX9_goodSets (d + 2) 26 [some (.ref 35), some (.int (nI fm)), some (.int (nI ch)), some (.int (nI B)), some (.int (nI L)), some (.int (nI b)), none, none] [] σ Q := by
    intro q
    induction q with
    | zero =>
      intro b B L hb hfb k1 k2
      obtain rfl : b = m := by omega
      refine vX9_goodSets_26 (pk_le b b (fun _ => ?_) (fun h => by omega) h1 rfl (by omega) (by omega))
      obtain rfl : B = bare := tb_eq fun j => (k1 j).trans (hB j).symm
      obtain rfl : L = lack := tb_eq fun j => (k2 j).trans (hL j).symm
      exact x_sets hq0 hf hb64 hl16 (fun j hj => ((hL j).mp hj).1) H
    | succ q ih =>
      intro b B L hb hfb k1 k2
      obtain ⟨c1, c2, c3, c4⟩ := h8 b (by omega)
      have hB64 : B < 64 := by
        have := bits_lt (a := B) (k := 6) fun j hj => by have := ((k1 j).mp hj).1; omega
        omega
      have hL16 : L < 2 ^ 16 := bits_lt fun j hj => by have := ((k2 j).mp hj).1; omega
      refine vX9_goodSets_26 (pk_le m b (fun h => by omega) (fun _ => ?_) h1 rfl (by omega) (by omega))
      rw [nI_1, nI_clamp (n := b) (by omega)]
      by_cases hcb : ch.testBit b = true
      · refine ⟨fun z => absurd ((nx_tb0 hch (by omega)).mp z) (by rw [hcb]; simp), fun _ => ⟨pk_in b 16 (by omega), ?_⟩⟩
        have hn2 := ho.1 b hfb (by omega) hcb
        have k1' : lvB cov v (b + 1) fm ch (adn B (cov b)) := by
          intro j
          rw [adn_tb (by omega), Bool.and_eq_true, k1 j]
          constructor
          · rintro ⟨⟨a1, a2⟩, a3⟩
            refine ⟨a1, fun b' e1 e2 e3 => ?_⟩
            by_cases e : b' = b
            · subst e; simpa using a3
            · exact a2 b' e1 (by omega) e3
          · rintro ⟨a1, a2⟩
            exact ⟨⟨a1, fun b' e1 e2 => a2 b' e1 (by omega)⟩, by rw [a2 b hfb (by omega) hcb]; rfl⟩
        rw [c1, nx_adn]
        rcases c4 with c4 | c4 | ⟨g, c4, c5, c6⟩
        · exact absurd c4 hn2
        · have hneg : gA σ 46 b < 0 := by rw [i_lt, c2, c4]; decide
          refine ⟨fun z => ?_, fun _ => ⟨fun _ => ⟨pk_in b 16 (by omega), fun _ => ?_, fun z => absurd hneg z⟩, fun z => absurd hneg z⟩⟩
          · rw [i_eq, c2, c4] at z
            exact absurd z (by decide)
          · rw [show (-1 : Int32) = nI 4294967295 by decide, nx_and]
            have e : L &&& 4294967295 = L := by
              rw [show (4294967295 : Nat) = 2 ^ 32 - 1 from rfl, Nat.and_two_pow_sub_one_eq_mod]
              exact Nat.mod_eq_of_lt (by omega)
            rw [e]
            refine ih (b + 1) _ L (by omega) (by omega) k1' fun j => ?_
            rw [k2 j]
            constructor
            · rintro ⟨a1, a2⟩
              refine ⟨a1, fun b' e1 e2 e3 => ?_⟩
              by_cases e : b' = b
              · subst e; omega
              · exact a2 b' e1 (by omega) e3
            · rintro ⟨a1, a2⟩
              exact ⟨a1, fun b' e1 e2 => a2 b' e1 (by omega)⟩
        · have e46 : gA σ 46 b = nI g := nI_ofT (by rw [c2, c4])
          have hLg : L.testBit g = true := (k2 g).mpr ⟨⟨c5, c6⟩, fun b' e1 e2 e3 e4 => ho.2 b' b e1 (by omega) (by omega) e3 hcb (by omega) (by omega)⟩
          rw [e46, nx_1shl (by omega), nx_adn]
          refine ⟨fun z => ?_, fun _ => ⟨fun z => absurd z (nI_pos (by omega)), fun _ => ⟨fun _ => ⟨pk_in b 16 (by omega), fun z => absurd z (nI_pos (by omega)), fun _ => ?_⟩, fun z => absurd ((nx_tb0 (by omega) (by omega)).mp z) (by rw [hLg]; simp)⟩⟩⟩
          · rw [i_eq, nI_toInt (by omega)] at z
            exact absurd z (by rw [show (-2 : Int32).toInt = -2 by decide]; omega)
          · refine ih (b + 1) _ _ (by omega) (by omega) k1' fun j => ?_
            rw [adn_tb (by omega), Bool.and_eq_true, k2 j, tb_pow]
            constructor
            · rintro ⟨⟨a1, a2⟩, a3⟩
              refine ⟨a1, fun b' e1 e2 e3 => ?_⟩
              by_cases e : b' = b
              · subst e
                simp at a3
                omega
              · exact a2 b' e1 (by omega) e3
            · rintro ⟨a1, a2⟩
              have := a2 b hfb (by omega) hcb
              have hgj : ¬ g = j := by omega
              exact ⟨⟨a1, fun b' e1 e2 => a2 b' e1 (by omega)⟩, by simp [hgj]⟩
      · refine ⟨fun _ => ?_, fun z => absurd ((nx_tb0 hch (by omega)).mpr (by simpa using hcb)) z⟩
        refine ih (b + 1) B L (by omega) (by omega) (fun j => ?_) (fun j => ?_)
        · rw [k1 j]
          constructor
          · rintro ⟨a1, a2⟩
            refine ⟨a1, fun b' e1 e2 e3 => ?_⟩
            by_cases e : b' = b
            · subst e; exact absurd e3 hcb
            · exact a2 b' e1 (by omega) e3
          · rintro ⟨a1, a2⟩
            exact ⟨a1, fun b' e1 e2 => a2 b' e1 (by omega)⟩
        · rw [k2 j]
          constructor
          · rintro ⟨a1, a2⟩
            refine ⟨a1, fun b' e1 e2 e3 => ?_⟩
            by_cases e : b' = b
            · subst e; exact absurd e3 hcb
            · exact a2 b' e1 (by omega) e3
          · rintro ⟨a1, a2⟩
            exact ⟨a1, fun b' e1 e2 => a2 b' e1 (by omega)⟩
  refine vX9_goodSets ?_
  have e2 : ∀ k, k ≤ 16 → nI (2 ^ k) - 1 = nI (2 ^ k - 1) := by decide +kernel
  rw [h4, h3, nx_1shl (by omega), nx_1shl (by omega), e2 v (by omega), e2 n (by omega), nx_adn]
  have p16 : 2 ^ n - 1 < 2 ^ 32 := by
    have := Nat.pow_le_pow_right (n := 2) (by decide) h7
    omega
  refine loop (m - fm) fm _ _ (by omega) (Nat.le_refl _) (fun j => ?_) (fun j => ?_)
  · rw [Nat.testBit_two_pow_sub_one, decide_eq_true_iff]
    exact ⟨fun a => ⟨a, fun b e1 e2 => by omega⟩, fun a => a.1⟩
  · rw [adn_tb p16, Nat.testBit_two_pow_sub_one, Nat.testBit_two_pow_sub_one, Bool.and_eq_true, decide_eq_true_iff]
    constructor
    · rintro ⟨a1, a2⟩
      simp at a2
      exact ⟨⟨a2, a1⟩, fun b e1 e2 => by omega⟩
    · rintro ⟨a1, _⟩
      refine ⟨a1.2, ?_⟩
      simp
      omega
/-- the whole of the variables, of the grounds -/
def allB (v : Nat) : Nat := 2 ^ v - 1
def allL (v n : Nat) : Nat := adn (2 ^ n - 1) (2 ^ v - 1)
theorem allB_tb (v j : Nat) : (allB v).testBit j = true ↔ j < v := by
  unfold allB
  rw [Nat.testBit_two_pow_sub_one, decide_eq_true_iff]
theorem allL_tb {v n : Nat} (hn : n ≤ 16) (j : Nat) : (allL v n).testBit j = true ↔ v ≤ j ∧ j < n := by
  have p16 : 2 ^ n - 1 < 2 ^ 32 := by
    have := Nat.pow_le_pow_right (n := 2) (by decide) hn
    omega
  unfold allL
  rw [adn_tb p16, Nat.testBit_two_pow_sub_one, Nat.testBit_two_pow_sub_one, Bool.and_eq_true, decide_eq_true_iff]
  simp
  omega
end XG
