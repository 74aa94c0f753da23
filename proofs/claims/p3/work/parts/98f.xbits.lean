/-! ===== class Unifying: bitsOf, sortBases ===== -/
section XB
variable {σ τ : am_S} {v n m : Nat} {cov : Nat → Nat} {gr : Nat → Int}
theorem gls_len : ∀ (b bare lack : Nat), (gls cov gr b bare lack).length ≤ 2 ^ b
  | 0, bare, lack => by
    simp only [gls]
    split <;> simp
  | b + 1, bare, lack => by
    have hp : 2 ^ (b + 1) = 2 ^ b + 2 ^ b := by rw [Nat.pow_succ]; omega
    have h1 := gls_len b bare lack
    simp only [gls]
    rw [List.length_append]
    split
    · simp; omega
    · split
      · have := gls_len b (adn bare (cov b)) lack
        rw [List.length_map]
        omega
      · split
        · have := gls_len b (adn bare (cov b)) (adn lack (2 ^ (gr b).toNat))
          rw [List.length_map]
          omega
        · simp; omega
theorem x_bitsOf {d i s : Nat} {Q : Int32 → am_S → Prop} (h : gq v n m cov gr σ) (hs : (gls cov gr m (allB v) (allL v n))[i]? = some s) (H : ∀ τ, w47 σ τ → Q (nI s) τ) : am_K ri am_Lx IX9_bitsOf (d + 3) [.ref 35, .int (nI i)] σ Q := by
  have hq0 := h
  obtain ⟨h1, h2, h3, h4, h5, h6, h7, h8⟩ := h
  have p16 : ∀ b, b ≤ m → 2 ^ b ≤ 2 ^ 16 := fun b hb => Nat.pow_le_pow_right (by decide) (by omega)
  have loop : ∀ b ch idx bare lack r τ, b ≤ m → w47 σ τ → ch < 2 ^ 16 → okC gr m b ch → lvB cov v m b ch bare → lvL gr v n m b ch lack → (gls cov gr b bare lack)[idx]? = some r → (∀ c, s.testBit c = if c < b then r.testBit c else ch.testBit c) → (∀ c, c < b → ch.testBit c = false) → am_X ri am_Lx IX9_bitsOf (d + 3) 15 [some (.ref 35), some (.int (nI i)), some (.int (nI ch)), some (.int (nI idx)), some (.int (nI b - 1)), none] [] τ Q := by
    intro b
    induction b with
    | zero =>
      intro ch idx bare lack r τ hb g1 hch k1 k2 k3 k4 k5 k6
      refine vX9_bitsOf_15 ⟨fun _ => ?_, fun z => absurd (by decide) z⟩
      have : s = ch := Nat.eq_of_testBit_eq fun c => by
        rw [k5 c, if_neg (Nat.not_lt_zero _)]
      rw [← this]
      exact H τ g1
    | succ b ih =>
      intro ch idx bare lack r τ hb g1 hch k1 k2 k3 k4 k5 k6
      have hq := gq_47 hq0 g1
      have hc8 := h8 b (by omega)
      have hcb : ch.testBit b = false := k6 b (by omega)
      have hidx := get_lt k4
      have hlen := gls_len (cov := cov) (gr := gr) (b + 1) bare lack
      have hlen0 := gls_len (cov := cov) (gr := gr) b bare lack
      have hp1 := p16 (b + 1) hb
      have hp0 := p16 b (by omega)
      have hbare : bare < 2 ^ 32 := by
        have := bits_lt (a := bare) (k := 6) fun j hj => by have := ((k2 j).mp hj).1; omega
        omega
      have hlack : lack < 2 ^ 32 := by
        have := bits_lt (a := lack) (k := 16) fun j hj => by have := ((k3 j).mp hj).1; omega
        omega
      -- bit b is not chosen: the same for b as for b + 1
      have o1 : okC gr m b ch := ⟨fun c e1 e2 e3 => by
        by_cases e : c = b
        · rw [e, hcb] at e3; cases e3
        · exact k1.1 c (by omega) e2 e3, fun c c' e1 e2 e3 e4 e5 => by
        by_cases e : c = b
        · rw [e, hcb] at e4; cases e4
        · exact k1.2 c c' (by omega) e2 e3 e4 e5⟩
      have o2 : lvB cov v m b ch bare := fun j => by
        rw [k2 j]
        constructor
        · rintro ⟨a1, a2⟩
          refine ⟨a1, fun c e1 e2 e3 => ?_⟩
          by_cases e : c = b
          · rw [e, hcb] at e3; cases e3
          · exact a2 c (by omega) e2 e3
        · rintro ⟨a1, a2⟩
          exact ⟨a1, fun c e1 e2 => a2 c (by omega) e2⟩
      have o3 : lvL gr v n m b ch lack := fun j => by
        rw [k3 j]
        constructor
        · rintro ⟨a1, a2⟩
          refine ⟨a1, fun c e1 e2 e3 => ?_⟩
          by_cases e : c = b
          · rw [e, hcb] at e3; cases e3
          · exact a2 c (by omega) e2 e3
        · rintro ⟨a1, a2⟩
          exact ⟨a1, fun c e1 e2 => a2 c (by omega) e2⟩
      rw [nI_pred]
      refine vX9_bitsOf_15 ⟨fun z => absurd z (nI_pos (by omega)), fun _ => ?_⟩
      refine x_goodSets (d := d) hq (by omega) (by omega) o1 o2 o3 fun τ2 g2 => ?_
      have g3 : w47 σ τ2 := gw_trans g1 g2
      rw [show nI b + (-1 : Int32) = nI b - 1 from by rw [show (-1 : Int32) = -1 from rfl, Int32.sub_eq_add_neg]]
      refine pk_lt idx (gls cov gr b bare lack).length (fun hlt => ?_) (fun hge => ?_)
      · simp only [gls] at k4
        rw [List.getElem?_append_left hlt] at k4
        have hr := gls_lt (get_mem k4)
        refine ih ch idx bare lack r τ2 (by omega) g3 hch o1 o2 o3 k4 (fun c => ?_) (fun c hc => k6 c (by omega))
        rw [k5 c]
        by_cases e : c < b
        · rw [if_pos (by omega), if_pos e]
        · rw [if_neg e]
          by_cases e2 : c = b
          · subst e2
            rw [if_pos (by omega), hcb, tb_hi hr (Nat.le_refl _)]
          · rw [if_neg (by omega)]
      · simp only [gls] at k4
        rw [List.getElem?_append_right hge] at k4
        rw [nx_1shl (by omega), nx_or, n_sub hge (by omega)]
        have hch2 : ch ||| 2 ^ b < 2 ^ 16 := or_lt hch (Nat.pow_lt_pow_right (by decide) (by omega))
        have tb2 : ∀ c, (ch ||| 2 ^ b).testBit c = (ch.testBit c || decide (b = c)) := fun c => by rw [Nat.testBit_or, tb_pow]
        have fin : ∀ bare' lack' r', gr b ≠ -2 → (∀ c, b < c → c < m → ch.testBit c = true → 0 ≤ gr b → gr b ≠ gr c) → lvL gr v n m b (ch ||| 2 ^ b) lack' → bare' = adn bare (cov b) → r = 2 ^ b + r' → (gls cov gr b bare' lack')[idx - (gls cov gr b bare lack).length]? = some r' → am_X ri am_Lx IX9_bitsOf (d + 3) 15 [some (.ref 35), some (.int (nI i)), some (.int (nI (ch ||| 2 ^ b))), some (.int (nI (idx - (gls cov gr b bare lack).length))), some (.int (nI b - 1)), none] [] τ2 Q := by
          intro bare' lack' r' w1 w2 w3 w4 w5 w6
          have hr := gls_lt (get_mem w6)
          refine ih _ _ bare' lack' r' τ2 (by omega) g3 hch2 ⟨fun c e1 e2 e3 => ?_, fun c c' e1 e2 e3 e4 e5 e6 => ?_⟩ (fun j => ?_) w3 w6 (fun c => ?_) (fun c hc => ?_)
          · by_cases e : c = b
            · subst e; exact w1
            · rw [tb2, Bool.or_eq_true] at e3
              rcases e3 with e3 | e3
              · exact k1.1 c (by omega) e2 e3
              · simp at e3; omega
          · rw [tb2, Bool.or_eq_true] at e4 e5
            have e5' : ch.testBit c' = true := by
              rcases e5 with e5 | e5
              · exact e5
              · simp at e5; omega
            by_cases e : c = b
            · subst e; exact w2 c' e2 e3 e5' e6
            · have e4' : ch.testBit c = true := by
                rcases e4 with e4 | e4
                · exact e4
                · simp at e4; omega
              exact k1.2 c c' (by omega) e2 e3 e4' e5' e6
          · rw [w4, adn_tb hbare, Bool.and_eq_true, k2 j]
            constructor
            · rintro ⟨⟨a1, a2⟩, a3⟩
              refine ⟨a1, fun c e1 e2 e3 => ?_⟩
              by_cases e : c = b
              · subst e; simpa using a3
              · rw [tb2, Bool.or_eq_true] at e3
                rcases e3 with e3 | e3
                · exact a2 c (by omega) e2 e3
                · simp at e3; omega
            · rintro ⟨a1, a2⟩
              refine ⟨⟨a1, fun c e1 e2 e3 => a2 c (by omega) e2 (by rw [tb2, e3]; rfl)⟩, ?_⟩
              rw [a2 b (Nat.le_refl _) (by omega) (by rw [tb2]; simp)]
              rfl
          · rw [k5 c, w5, tb2]
            by_cases e : c < b
            · rw [if_pos (by omega), if_pos e, Nat.testBit_two_pow_add_gt e]
            · rw [if_neg e]
              by_cases e2 : c = b
              · subst e2
                rw [if_pos (by omega), Nat.testBit_two_pow_add_eq, tb_hi hr (Nat.le_refl _)]
                simp
              · rw [if_neg (by omega)]
                simp [Ne.symm e2]
          · rw [tb2, k6 c (by omega)]
            have : ¬ b = c := by omega
            simp [this]
        split at k4
        · simp at k4
        · rename_i hg2
          split at k4
          · rename_i hneg
            obtain ⟨r', e1, e2⟩ := Option.map_eq_some_iff.mp (by rw [← List.getElem?_map]; exact k4)
            refine fin _ lack r' hg2 (fun c _ _ _ z => by omega) (fun j => ?_) rfl e2.symm e1
            rw [k3 j]
            constructor
            · rintro ⟨a1, a2⟩
              refine ⟨a1, fun c e1 e2 e3 => ?_⟩
              by_cases e : c = b
              · subst e; omega
              · rw [tb2, Bool.or_eq_true] at e3
                rcases e3 with e3 | e3
                · exact a2 c (by omega) e2 e3
                · simp at e3; omega
            · rintro ⟨a1, a2⟩
              exact ⟨a1, fun c e1 e2 e3 => a2 c (by omega) e2 (by rw [tb2, e3]; rfl)⟩
          · rename_i hneg
            split at k4
            · rename_i hlk
              obtain ⟨r', e1, e2⟩ := Option.map_eq_some_iff.mp (by rw [← List.getElem?_map]; exact k4)
              have hlk2 := (k3 _).mp hlk
              refine fin _ _ r' hg2 (fun c e1 e2 e3 z e4 => hlk2.2 c (by omega) e2 e3 (by omega)) (fun j => ?_) rfl e2.symm e1
              rw [adn_tb hlack, Bool.and_eq_true, k3 j, tb_pow]
              constructor
              · rintro ⟨⟨a1, a2⟩, a3⟩
                simp at a3
                refine ⟨a1, fun c e1 e2 e3 => ?_⟩
                by_cases e : c = b
                · subst e; omega
                · rw [tb2, Bool.or_eq_true] at e3
                  rcases e3 with e3 | e3
                  · exact a2 c (by omega) e2 e3
                  · simp at e3; omega
              · rintro ⟨a1, a2⟩
                have hb := a2 b (Nat.le_refl _) (by omega) (by rw [tb2]; simp)
                refine ⟨⟨a1, fun c e1 e2 e3 => a2 c (by omega) e2 (by rw [tb2, e3]; rfl)⟩, ?_⟩
                have : ¬ (gr b).toNat = j := by omega
                simp [this]
            · simp at k4
  refine vX9_bitsOf ?_
  rw [h1]
  have hsl := gls_lt (get_mem hs)
  refine loop m 0 i (allB v) (allL v n) s σ (Nat.le_refl _) gw_rfl (by decide) ⟨fun c e1 e2 => by omega, fun c c' e1 e2 e3 => by omega⟩ (fun j => ?_) (fun j => ?_) hs (fun c => ?_) (fun c _ => by simp)
  · rw [allB_tb]
    exact ⟨fun a => ⟨a, fun c e1 e2 => by omega⟩, fun a => a.1⟩
  · rw [allL_tb h7]
    exact ⟨fun a => ⟨a, fun c e1 e2 => by omega⟩, fun a => a.1⟩
  · by_cases e : c < m
    · rw [if_pos e]
    · rw [if_neg e, tb_hi hsl (by omega)]
      simp
end XB
/-! what a base gives -/
def cvf (x : List Nat) : Nat → Nat
  | 0 => 0
  | j + 1 => cvf x j ||| (if 0 < x.getD j 0 then 2 ^ j else 0)
def grf (x : List Nat) (v : Nat) : Nat → Int
  | 0 => -1
  | k + 1 => if x.getD (v + k) 0 = 0 then grf x v k else if x.getD (v + k) 0 = 1 ∧ grf x v k = -1 then ((v + k : Nat) : Int) else -2
def usf (gr : Nat → Int) : Nat → Nat
  | 0 => 0
  | b + 1 => usf gr b + (if gr b = -2 then 0 else 1)
theorem cvf_tb (x : List Nat) : ∀ (k j : Nat), (cvf x k).testBit j = true ↔ j < k ∧ 0 < x.getD j 0
  | 0, j => by simp [cvf]
  | k + 1, j => by
    simp only [cvf]
    rw [Nat.testBit_or, Bool.or_eq_true, cvf_tb x k j]
    by_cases h : 0 < x.getD k 0
    · rw [if_pos h, tb_pow, decide_eq_true_iff]
      constructor
      · rintro (⟨a, b⟩ | e)
        · exact ⟨by omega, b⟩
        · subst e; exact ⟨by omega, h⟩
      · rintro ⟨a, b⟩
        by_cases e : k = j
        · exact Or.inr e
        · exact Or.inl ⟨by omega, b⟩
    · rw [if_neg h]
      simp only [Nat.zero_testBit]
      constructor
      · rintro (⟨a, b⟩ | e)
        · exact ⟨by omega, b⟩
        · cases e
      · rintro ⟨a, b⟩
        by_cases e : k = j
        · subst e; exact absurd b h
        · exact Or.inl ⟨by omega, b⟩
theorem cvf_lt {x : List Nat} {v : Nat} (hv : v ≤ 6) : cvf x v < 64 := by
  have := bits_lt (a := cvf x v) (k := 6) fun j hj => by have := ((cvf_tb x v j).mp hj).1; omega
  omega
theorem grf_or (x : List Nat) (v : Nat) : ∀ k, grf x v k = -2 ∨ grf x v k = -1 ∨ ∃ g : Nat, grf x v k = g ∧ v ≤ g ∧ g < v + k
  | 0 => Or.inr (Or.inl rfl)
  | k + 1 => by
    simp only [grf]
    split
    · rcases grf_or x v k with h | h | ⟨g, h1, h2, h3⟩
      · exact Or.inl h
      · exact Or.inr (Or.inl h)
      · exact Or.inr (Or.inr ⟨g, h1, h2, by omega⟩)
    · split
      · exact Or.inr (Or.inr ⟨v + k, rfl, by omega, by omega⟩)
      · exact Or.inl rfl
section SB
variable {σ τ : am_S} {v n : Nat} {B : List (List Nat)}
abbrev covB (B : List (List Nat)) (v b : Nat) : Nat := cvf (B.getD b []) v
abbrev grB (B : List (List Nat)) (v n b : Nat) : Int := grf (B.getD b []) v (n - v)
abbrev sbW (σ τ : am_S) : Prop := gw [(35, 9)] [45, 46] [] [] 0 0 σ τ
theorem fs36_gw {U : Nat} {S : List (Nat × Nat)} {A J P : List Nat} {c s : Nat} (h : fs36 U B σ) (g : gw S A J P c s σ τ) (h1 : (36, 11) ∉ S) (h2 : 42 ∉ A) : fs36 U B τ := by
  refine ⟨by rw [gw_S g (by omega) h1]; exact h.1, fun i a b j e => ?_⟩
  rw [gw_A g h2]
  exact h.2 i a b j e
theorem x_sortBases {d : Nat} {Q : Unit → am_S → Prop} (h0 : gS σ 36 0 = nI 16) (h7 : gS σ 35 7 = nI n) (h8 : gS σ 35 8 = nI v) (hv : v ≤ 6) (hvn : v ≤ n) (hn : n ≤ 16) (hf : fs36 n B σ) (hB : B.length ≤ 16) (hS : ∀ x ∈ B, sm x ≤ 16) (H : ∀ τ, sbW σ τ → gq v n B.length (covB B v) (grB B v n) τ → gS τ 35 9 = nI (usf (grB B v n) B.length) → Q () τ) : am_K ru am_Lx IX9_sortBases (d + 2) [.ref 35] σ Q := by
  have hmem : ∀ b, b < B.length → B.getD b [] ∈ B := fun b hb => by
    rw [List.getD_eq_getElem?_getD, List.getElem?_eq_getElem hb]
    exact List.getElem_mem hb
  have inn : ∀ b, b < B.length → ∀ (P : am_S → Prop), (∀ τ, P τ → sbW σ τ ∧ (∀ c, c < b → gA τ 45 c = nI (covB B v c) ∧ (gA τ 46 c).toInt = grB B v n c) ∧ gS τ 35 9 = nI (usf (grB B v n) b)) → (∀ τ w, P τ → P (wA τ 45 b w)) → (∀ τ w, P τ → P (wA τ 46 b w)) → (∀ τ, P τ → gA τ 45 b = nI (covB B v b) → (gA τ 46 b).toInt = grB B v n b → am_X ru am_Lx IX9_sortBases (d + 2) 7 [some (.ref 35), some (.int (nI (b + 1))), none, none] [] (wS τ 35 9 (nI (usf (grB B v n) (b + 1)))) Q) → ∀ q j τ, j + q = n → P τ → gA τ 45 b = nI (cvf (B.getD b []) (min j v)) → (gA τ 46 b).toInt = grf (B.getD b []) v (j - v) → am_X ru am_Lx IX9_sortBases (d + 2) 34 [some (.ref 35), some (.int (nI b)), some (.int (nI j)), none] [] τ Q := by
    intro b hb P hP hP1 hP2 hfin q
    induction q with
    | zero =>
      intro j τ hj g1 g2 g3
      obtain rfl : j = n := by omega
      rw [Nat.min_eq_right hvn] at g2
      obtain ⟨p1, p2, p3⟩ := hP τ g1
      have h7t : gS τ 35 7 = nI j := by rw [gw_S p1 (by omega) (by decide)]; exact h7
      refine vX9_sortBases_34 (pk_le j j (fun _ => ⟨pk_in b 16 (by omega), ?_⟩) (fun h => by omega) h7t rfl (by omega) (by omega))
      rw [nI_clamp (n := b) (by omega), p3, nI_1]
      have hf2 := hfin τ g1 g2 g3
      simp only [usf] at hf2
      constructor
      · intro z
        rw [if_neg (fun e => z (i_eq.mpr (by rw [g3, show grf (B.getD b []) v (j - v) = -2 from e]; decide))), ← nI_1] at hf2
        rw [nI_1] at hf2 ⊢
        exact hf2
      · intro z
        have e : grB B v j b = -2 := by
          rw [z] at g3
          exact g3.symm.trans (by decide)
        rw [if_pos e] at hf2
        rw [show (0 : Int32) = nI 0 from rfl, nI_add]
        exact hf2
    | succ q ih =>
      intro j τ hj g1 g2 g3
      obtain ⟨p1, p2, p3⟩ := hP τ g1
      have h7t : gS τ 35 7 = nI n := by rw [gw_S p1 (by omega) (by decide)]; exact h7
      have h8t : gS τ 35 8 = nI v := by rw [gw_S p1 (by omega) (by decide)]; exact h8
      have h0t : gS τ 36 0 = nI 16 := by rw [gw_S p1 (by omega) (by decide)]; exact h0
      have hft := fs36_gw hf p1 (by decide) (by decide)
      have hx := big_sm (B.getD b []) j
      have hx2 := hS _ (hmem b hb)
      refine vX9_sortBases_34 (pk_le n j (fun h => by omega) (fun _ => ?_) h7t rfl (by omega) (by omega))
      refine x_given36 (d := d) (F := B) (U := n) h0t hft hb (by omega) (by omega) hn ?_
      rw [nI_clamp (n := b) (by omega), nI_1, h8t]
      refine pk_le v j (fun hvj => ?_) (fun hjv => ?_)
      · -- a ground one
        have e1 : min (j + 1) v = min j v := by omega
        have e2 : j + 1 - v = (j - v) + 1 := by omega
        have e3 : v + (j - v) = j := by omega
        have nx : ∀ τ2, P τ2 → gA τ2 45 b = gA τ 45 b → (gA τ2 46 b).toInt = grf (B.getD b []) v (j - v + 1) → am_X ru am_Lx IX9_sortBases (d + 2) 34 [some (.ref 35), some (.int (nI b)), some (.int (nI (j + 1))), none] [] τ2 Q := fun τ2 k1 k2 k3 => ih (j + 1) τ2 (by omega) k1 (by rw [k2, e1]; exact g2) (by rw [e2]; exact k3)
        simp only [grf] at nx
        rw [e3] at nx
        refine pk_le ((B.getD b []).getD j 0) 0 (fun h => nx τ g1 rfl ?_) (fun h => ?_)
        · rw [if_pos (by omega)]
          exact g3
        · rw [if_neg (by omega)] at nx
          refine ⟨fun z => ⟨pk_in b 16 (by omega), nx _ (hP2 τ _ g1) (by rw [wA_ne (by omega)]) ?_⟩, fun z => ⟨pk_in b 16 (by omega), fun z2 => ⟨pk_in b 16 (by omega), nx _ (hP2 τ _ g1) (by rw [wA_ne (by omega)]) ?_⟩, fun z2 => ⟨pk_in b 16 (by omega), nx _ (hP2 τ _ g1) (by rw [wA_ne (by omega)]) ?_⟩⟩⟩
          · rw [wA_at, if_neg (fun e => z (by rw [e.1]; rfl))]
            decide
          · rw [wA_at, if_neg (fun e => z2 (i_eq.mpr (by rw [g3, e.2]; decide)))]
            decide
          · rw [wA_at, if_pos ⟨(nI_eq (by omega) (by omega)).mp (show nI _ = nI 1 from z), by rw [z2] at g3; exact g3.symm.trans (by decide)⟩, nI_toInt (by omega)]
      · -- a variable
        have e1 : min (j + 1) v = j + 1 := by omega
        have e2 : min j v = j := by omega
        have e3 : j + 1 - v = j - v := by omega
        rw [e2] at g2
        have nx : ∀ τ2, P τ2 → gA τ2 45 b = nI (cvf (B.getD b []) (j + 1)) → gA τ2 46 b = gA τ 46 b → am_X ru am_Lx IX9_sortBases (d + 2) 34 [some (.ref 35), some (.int (nI b)), some (.int (nI (j + 1))), none] [] τ2 Q := fun τ2 k1 k2 k3 => ih (j + 1) τ2 (by omega) k1 (by rw [e1]; exact k2) (by rw [e3, k3]; exact g3)
        simp only [cvf] at nx
        refine ⟨pk_in b 16 (by omega), ?_⟩
        refine pk_le ((B.getD b []).getD j 0) 0 (fun h => ⟨pk_in b 16 (by omega), ?_⟩) (fun h => ⟨pk_in b 16 (by omega), ?_⟩)
        · rw [g2, show (0 : Int32) = nI 0 from rfl, nx_or]
          rw [if_neg (by omega)] at nx
          exact nx _ (hP1 τ _ g1) (wA_at _ _ _ _) (by rw [wA_ne (by omega)])
        · rw [g2, nx_1shl (by omega), nx_or]
          rw [if_pos h] at nx
          exact nx _ (hP1 τ _ g1) (wA_at _ _ _ _) (by rw [wA_ne (by omega)])
  have loop : ∀ q b τ, b + q = B.length → sbW σ τ → (∀ c, c < b → gA τ 45 c = nI (covB B v c) ∧ (gA τ 46 c).toInt = grB B v n c) → gS τ 35 9 = nI (usf (grB B v n) b) → am_X ru am_Lx IX9_sortBases (d + 2) 7 [some (.ref 35), some (.int (nI b)), none, none] [] τ Q := by
    intro q
    induction q with
    | zero =>
      intro b τ hb g1 g2 g3
      obtain rfl : b = B.length := by omega
      have h11 : gS τ 36 11 = nI B.length := by rw [gw_S g1 (by omega) (by decide)]; exact hf.1
      refine vX9_sortBases_7 (pk_le B.length B.length (fun _ => H τ g1 ⟨h11, hB, ?_, ?_, hv, hvn, hn, fun c hc => ?_⟩ g3) (fun h => by omega) h11 rfl (by omega) (by omega))
      · rw [gw_S g1 (by omega) (by decide)]; exact h7
      · rw [gw_S g1 (by omega) (by decide)]; exact h8
      · refine ⟨(g2 c hc).1, (g2 c hc).2, cvf_lt hv, ?_⟩
        have := grf_or (B.getD c []) v (n - v)
        rw [show v + (n - v) = n by omega] at this
        exact this
    | succ q ih =>
      intro b τ hb g1 g2 g3
      have h11 : gS τ 36 11 = nI B.length := by rw [gw_S g1 (by omega) (by decide)]; exact hf.1
      refine vX9_sortBases_7 (pk_le B.length b (fun h => by omega) (fun _ => ⟨pk_in b 16 (by omega), pk_in b 16 (by omega), ?_⟩) h11 rfl (by omega) (by omega))
      rw [nI_clamp (n := b) (by omega)]
      refine inn b (by omega) (fun τ => sbW σ τ ∧ (∀ c, c < b → gA τ 45 c = nI (covB B v c) ∧ (gA τ 46 c).toInt = grB B v n c) ∧ gS τ 35 9 = nI (usf (grB B v n) b)) (fun τ h => h) (fun τ w h => ⟨gw_wA h.1 (by simp), fun c hc => by rw [wA_ne (by omega), wA_ne (by omega)]; exact h.2.1 c hc, h.2.2⟩) (fun τ w h => ⟨gw_wA h.1 (by simp), fun c hc => by rw [wA_ne (by omega), wA_ne (by omega)]; exact h.2.1 c hc, h.2.2⟩) (fun τ h k1 k2 => ?_) n 0 _ (by omega) ⟨gw_wA (gw_wA g1 (by simp)) (by simp), fun c hc => ?_, g3⟩ ?_ ?_
      · refine ih (b + 1) _ (by omega) (gw_wS h.1 (by simp) (by omega)) (fun c hc => ?_) (wS_at _ _ _ _)
        rw [gA_wS]
        by_cases e : c = b
        · subst e; exact ⟨k1, k2⟩
        · exact h.2.1 c (by omega)
      · rw [wA_ne (by omega), wA_ne (by omega), wA_ne (by omega), wA_ne (by omega)]
        exact g2 c hc
      · rw [wA_ne (by omega), wA_at, Nat.zero_min]
        rfl
      · rw [wA_at, Nat.zero_sub]
        rfl
  exact vX9_sortBases (loop B.length 0 _ (by omega) (gw_wS gw_rfl (by simp) (by omega)) (fun c hc => absurd hc (Nat.not_lt_zero _)) (wS_at _ _ _ _))
end SB
