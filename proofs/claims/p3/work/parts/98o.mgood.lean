/-! ===== the reference: groundOf, isGood ===== -/
def rl (v : Nat) (z : Int) : Int := if z < 0 then z else z - v
def smB (B : List (List Nat)) (s j : Nat) : Nat → Nat
  | 0 => 0
  | b + 1 => smB B s j b + s / 2 ^ b % 2 * (B.getD b []).getD j 0
section GD
variable {σ τ : am_S} {n v : Nat} {B : List (List Nat)} {d : Nat}
theorem rl_neg {z : Int} (h : z < 0) : rl v z = z := if_pos h
theorem rl_pos {z : Int} (h : 0 ≤ z) : rl v z = z - v := if_neg (by omega)
theorem B_mem {b : Nat} (hb : b < B.length) : B.getD b [] ∈ B := by
  rw [List.getD_eq_getElem?_getD, List.getElem?_eq_getElem hb]
  exact List.getElem_mem hb
theorem m_groundOf {i : Nat} {Q : Int32 → am_S → Prop} (h40 : gS σ 0 40 = nI v) (h41 : gS σ 0 41 = nI (n - v)) (hvn : v ≤ n) (hn : n ≤ 16) (hB : mbB n B σ) (hS : ∀ x ∈ B, sm x ≤ 16) (hi : i < B.length) (H : ∀ r : Int32, r.toInt = rl v (grB B v n i) → Q r σ) : am_K ri am_Lm IX11_groundOf (d + 1) [.ref 0, .int (nI i)] σ Q := by
  obtain ⟨b1, b2, b3⟩ := hB
  obtain ⟨k, k1, k2, k3⟩ := b3 i hi
  have hx := hS _ (B_mem hi)
  have loop : ∀ m j (l2 : Int32), j + m = n - v → l2.toInt = rl v (grf (B.getD i []) v j) → am_X ri am_Lm IX11_groundOf (d + 1) 4 [some (.ref 0), some (.int (nI i)), some (.int l2), some (.int (nI j)), none] [] σ Q := by
    intro m
    induction m with
    | zero =>
      intro j l2 hj e
      obtain rfl : j = n - v := by omega
      exact vX11_groundOf_4 (pk_le (n - v) (n - v) (fun _ => H l2 e) (fun h => by omega) h41 rfl (by omega) (by omega))
    | succ m ih =>
      intro j l2 hj e
      have e1 : (32 : Int32) * gA σ 25 i + gS σ 0 40 + nI j = nI (32 * k + (v + j)) := by rw [k2, h40, show (32 : Int32) = nI 32 from rfl, pk_mul, nI_add, nI_add, Nat.add_assoc]
      have hbs := big_sm (B.getD i []) (v + j)
      have hgo := grf_or (B.getD i []) v j
      refine vX11_groundOf_4 (pk_le (n - v) j (fun h => by omega) (fun _ => ?_) h41 rfl (by omega) (by omega))
      rw [nI_clamp (n := i) (by omega), e1, nI_clamp (n := 32 * k + (v + j)) (by omega), k3 (v + j) (by omega), nI_1]
      refine ⟨pk_in i 17 (by omega), pk_in (32 * k + (v + j)) 600 (by omega), ?_⟩
      have nx := fun l2 => ih (j + 1) l2 (by omega)
      simp only [grf] at nx
      generalize (B.getD i []).getD (v + j) 0 = x at hbs nx
      refine ⟨fun h0 => ?_, fun h0 => ?_⟩
      · have hx0 : x ≠ 0 := fun z => h0 (by rw [z]; rfl)
        rw [if_neg hx0] at nx
        refine ⟨fun h1 => nx _ ?_, fun h1 => ⟨fun h2 => nx _ ?_, fun h2 => nx _ ?_⟩⟩
        · rw [if_neg (fun z => h1 (by rw [z.1]; rfl))]
          rfl
        · rw [if_neg (fun z => h2 (i_eq.mpr (by rw [e, z.2]; rfl)))]
          rfl
        · have e3 : grf (B.getD i []) v j = -1 := by
            rw [h2, l_m1] at e
            rcases hgo with g | g | ⟨g, g1, g2, g3⟩
            · rw [g, rl_neg (by decide)] at e; exact absurd e (by decide)
            · exact g
            · rw [g1, rl_pos (by omega)] at e; omega
          rw [if_pos ⟨(nI_eq (by omega) (by omega)).mp (show nI x = nI 1 from h1), e3⟩, rl_pos (by omega), nI_toInt (by omega)]
          omega
      · have hx0 : x = 0 := (nx_z (by omega)).mp h0
        rw [if_pos hx0] at nx
        exact nx l2 e
  exact vX11_groundOf (loop (n - v) 0 (-1) (by omega) rfl)
theorem smB_bd {s j : Nat} (hS : ∀ x ∈ B, sm x ≤ 16) : ∀ {b : Nat}, b ≤ B.length → smB B s j b ≤ 16 * b
  | 0, _ => Nat.le_refl _
  | b + 1, h => by
    have ih := smB_bd (s := s) (j := j) hS (b := b) (by omega)
    have h1 := hS _ (B_mem (B := B) (b := b) (by omega))
    have h2 := big_sm (B.getD b []) j
    have h3 : s / 2 ^ b % 2 * (B.getD b []).getD j 0 ≤ 1 * 16 := Nat.mul_le_mul (by omega) (by omega)
    simp only [smB]
    omega
theorem smB_0 {s j : Nat} : ∀ {b : Nat}, smB B s j b = 0 ↔ ∀ c, c < b → s.testBit c = true → (B.getD c []).getD j 0 = 0
  | 0 => ⟨fun _ c h => by omega, fun _ => rfl⟩
  | b + 1 => by
    simp only [smB]
    rw [Nat.add_eq_zero_iff, smB_0, Nat.mul_eq_zero]
    constructor
    · rintro ⟨h1, h2⟩ c hc hs
      by_cases e : c = b
      · subst e
        rcases h2 with h2 | h2
        · rw [(tb_iff _ _).mpr hs] at h2; omega
        · exact h2
      · exact h1 c (by omega) hs
    · intro h
      refine ⟨fun c hc => h c (by omega), ?_⟩
      by_cases hs : s.testBit b = true
      · exact Or.inr (h b (by omega) hs)
      · left
        have : ¬ s / 2 ^ b % 2 = 1 := fun z => hs ((tb_iff _ _).mp z)
        omega
theorem m_isGood {s : Nat} {Q : Int32 → am_S → Prop} (h40 : gS σ 0 40 = nI v) (h41 : gS σ 0 41 = nI (n - v)) (hvn : v ≤ n) (hn : n ≤ 16) (hv : v ≤ 6) (hB : mbB n B σ) (hS : ∀ x ∈ B, sm x ≤ 16) (h30 : ∀ b, b < B.length → (gA σ 30 b).toInt = rl v (grB B v n b)) (hs : s < 2 ^ B.length) (h1 : gdS (covB B v) (grB B v n) B.length (allB v) (allL v n) s → Q 1 σ) (h0 : ¬ gdS (covB B v) (grB B v n) B.length (allB v) (allL v n) s → Q 0 σ) : am_K ri am_Lm IX11_isGood (d + 1) [.ref 0, .int (nI s)] σ Q := by
  obtain ⟨b1, b2, b3⟩ := hB
  have hs16 : s < 2 ^ 16 := by
    have := Nat.pow_le_pow_right (n := 2) (by decide) b2
    omega
  have hgr : ∀ c, c < B.length → grB B v n c = -2 ∨ grB B v n c = -1 ∨ ∃ g : Nat, grB B v n c = g ∧ v ≤ g ∧ g < n := fun c _ => by
    have := grf_or (B.getD c []) v (n - v)
    rw [show v + (n - v) = n by omega] at this
    exact this
  -- the variables
  have inn : ∀ (l2 : Int32) j, j < v → (smB B s j B.length = 0 → Q 0 σ) → (smB B s j B.length ≠ 0 → am_X ri am_Lm IX11_isGood (d + 1) 91 [some (.ref 0), some (.int (nI s)), some (.int l2), some (.int (nI (j + 1))), none, none] [] σ Q) → ∀ m b, b + m = B.length → am_X ri am_Lm IX11_isGood (d + 1) 105 [some (.ref 0), some (.int (nI s)), some (.int l2), some (.int (nI j)), some (.int (nI (smB B s j b))), some (.int (nI b))] [] σ Q := by
    intro l2 j hj no yes m
    induction m with
    | zero =>
      intro b hb
      obtain rfl : b = B.length := by omega
      have hbd := smB_bd (s := s) (j := j) hS (Nat.le_refl B.length)
      refine vX11_isGood_105 (pk_le B.length B.length (fun _ => ?_) (fun h => by omega) b1 rfl (by omega) (by omega))
      rw [nI_1]
      exact ⟨fun z => yes fun e => z (by rw [e]; rfl), fun z => no ((nx_z (by omega)).mp z)⟩
    | succ m ih =>
      intro b hb
      obtain ⟨k, k1, k2, k3⟩ := b3 b (by omega)
      have e1 : (32 : Int32) * gA σ 25 b + nI j = nI (32 * k + j) := by rw [k2, show (32 : Int32) = nI 32 from rfl, pk_mul, nI_add]
      refine vX11_isGood_105 (pk_le B.length b (fun h => by omega) (fun _ => ?_) b1 rfl (by omega) (by omega))
      rw [nI_clamp (n := b) (by omega), e1, nI_clamp (n := 32 * k + j) (by omega), k3 j (by omega), nI_1, nx_tb (by omega) (by omega), pk_mul, nI_add]
      refine ⟨pk_in b 17 (by omega), pk_in (32 * k + j) 600 (by omega), ?_⟩
      exact ih (b + 1) (by omega)
  have vars : ∀ (l2 : Int32) m j, j + m = v → (∀ i, i < j → smB B s i B.length ≠ 0) → ((∀ i, i < v → smB B s i B.length ≠ 0) → Q 1 σ) → (¬ (∀ i, i < v → smB B s i B.length ≠ 0) → Q 0 σ) → am_X ri am_Lm IX11_isGood (d + 1) 91 [some (.ref 0), some (.int (nI s)), some (.int l2), some (.int (nI j)), none, none] [] σ Q := by
    intro l2 m
    induction m with
    | zero =>
      intro j hj ha yes no
      exact vX11_isGood_91 (pk_le v j (fun _ => yes fun i hi => ha i (by omega)) (fun h => by omega) h40 rfl (by omega) (by omega))
    | succ m ih =>
      intro j hj ha yes no
      refine vX11_isGood_91 (pk_le v j (fun h => by omega) (fun _ => ?_) h40 rfl (by omega) (by omega))
      refine inn l2 j (by omega) (fun e => no fun c => c j (by omega) e) (fun e => ih (j + 1) (by omega) (fun i hi => ?_) yes no) B.length 0 (by omega)
      by_cases q : i = j
      · subst q; exact e
      · exact ha i (by omega)
  have loop : ∀ m b O, b + m = B.length → O < 2 ^ 16 → (∀ c, c < b → s.testBit c = true → grB B v n c ≠ -2) → (∀ c e, c < e → e < b → s.testBit c = true → s.testBit e = true → 0 ≤ grB B v n c → grB B v n c ≠ grB B v n e) → (∀ g, O.testBit g = true ↔ ∃ c, c < b ∧ s.testBit c = true ∧ grB B v n c = ((v + g : Nat) : Int)) → am_X ri am_Lm IX11_isGood (d + 1) 4 [some (.ref 0), some (.int (nI s)), some (.int (nI O)), some (.int (nI b)), none, none] [] σ Q := by
    intro m
    induction m with
    | zero =>
      intro b O hb hO k1 k2 k3
      obtain rfl : b = B.length := by omega
      refine vX11_isGood_4 (pk_le B.length B.length (fun _ => ?_) (fun h => by omega) b1 rfl (by omega) (by omega))
      have e2 : ∀ k, k ≤ 16 → nI (2 ^ k) - 1 = nI (2 ^ k - 1) := by decide +kernel
      rw [h41, nx_1shl (by omega), e2 (n - v) (by omega)]
      have p16 : 2 ^ (n - v) ≤ 2 ^ 16 := Nat.pow_le_pow_right (by decide) (by omega)
      have hsub : ∀ g, O.testBit g = true → g < n - v := fun g hg => by
        obtain ⟨c, c1, c2, c3⟩ := (k3 g).mp hg
        rcases hgr c c1 with q | q | ⟨q, q1, q2, q3⟩
        · omega
        · omega
        · omega
      have hall : (O = 2 ^ (n - v) - 1) ↔ ∀ j, v ≤ j ∧ j < n → ∃ c, c < B.length ∧ s.testBit c = true ∧ grB B v n c = j := by
        constructor
        · intro e j hj
          have : O.testBit (j - v) = true := by rw [e, Nat.testBit_two_pow_sub_one]; simp; omega
          obtain ⟨c, c1, c2, c3⟩ := (k3 _).mp this
          exact ⟨c, c1, c2, by rw [c3]; omega⟩
        · intro h
          refine tb_eq fun g => ⟨fun hg => ?_, fun hg => ?_⟩
          · rw [Nat.testBit_two_pow_sub_one, decide_eq_true_iff]; exact hsub g hg
          · rw [Nat.testBit_two_pow_sub_one, decide_eq_true_iff] at hg
            obtain ⟨c, c1, c2, c3⟩ := h (v + g) ⟨by omega, by omega⟩
            exact (k3 g).mpr ⟨c, c1, c2, c3⟩
      refine pk_eq O (2 ^ (n - v) - 1) (fun e => ?_) (fun e => ?_)
      · refine vars _ v 0 (by omega) (fun i hi => absurd hi (Nat.not_lt_zero _)) (fun hc => h1 ?_) (fun hc => h0 fun g => hc fun i hi e2 => ?_)
        · refine ⟨hs, fun c hc2 hsc => ⟨k1 c hc2 hsc, fun z => ?_⟩, k2, fun j hj => hall.mp e j ((allL_tb hn j).mp hj), fun j hj => ?_⟩
          · rcases hgr c hc2 with q | q | ⟨q, q1, q2, q3⟩
            · omega
            · omega
            · rw [q1, Int.toNat_natCast, allL_tb hn]
              exact ⟨q2, q3⟩
          · have hjv := (allB_tb v j).mp hj
            have := hc j hjv
            refine Classical.byContradiction fun c2 => this (smB_0.mpr fun c c3 c4 => ?_)
            refine Nat.eq_zero_of_not_pos fun c5 => c2 ⟨c, c3, c4, (cvf_tb _ _ _).mpr ⟨hjv, c5⟩⟩
        · obtain ⟨c, c1, c2, c3⟩ := g.2.2.2.2 i ((allB_tb v i).mpr hi)
          have := smB_0.mp e2 c c1 c2
          have := ((cvf_tb _ _ _).mp c3).2
          omega
      · refine h0 fun g => e (hall.mpr fun j hj => ?_)
        exact g.2.2.2.1 j ((allL_tb hn j).mpr hj)
    | succ m ih =>
      intro b O hb hO k1 k2 k3
      have hbl : b < B.length := by omega
      refine vX11_isGood_4 (pk_le B.length b (fun h => by omega) (fun _ => ?_) b1 rfl (by omega) (by omega))
      have hbit : ((nI s >>> (nI b &&& 31)) &&& (1 : Int32)) = 1 ↔ s.testBit b = true := by
        rw [nx_tb (by omega) (by omega), show (1 : Int32) = nI 1 from rfl, nI_eq (by omega) (by omega), tb_iff]
      rw [nI_1, nI_clamp (n := b) (by omega), hbit]
      by_cases hsb : s.testBit b = true
      · refine ⟨fun z => absurd hsb z, fun _ => ⟨pk_in b 16 (by omega), ?_⟩⟩
        have h30b := h30 b hbl
        rcases hgr b hbl with q | q | ⟨q, q1, q2, q3⟩
        · rw [q] at h30b
          refine ⟨fun _ => h0 fun g => (g.2.1 b hbl hsb).1 q, fun z => absurd (i_eq.mpr (by rw [h30b]; rfl)) z⟩
        · rw [q, rl_neg (by decide)] at h30b
          have hneg : gA σ 30 b < 0 := by rw [i_lt, h30b]; decide
          refine ⟨fun z => ?_, fun _ => ⟨fun _ => ⟨fun _ => ?_, fun z => absurd hneg z⟩, fun z => absurd hneg z⟩⟩
          · rw [z] at h30b; exact absurd h30b (by decide)
          · rw [show (0 : Int32) = nI 0 from rfl, nx_or, Nat.or_zero]
            refine ih (b + 1) O (by omega) hO (fun c hc hsc => ?_) (fun c e hce he hc1 hc2 h3 => ?_) (fun g => ?_)
            · by_cases e : c = b
              · subst e; omega
              · exact k1 c (by omega) hsc
            · by_cases e2 : e = b
              · subst e2; omega
              · exact k2 c e hce (by omega) hc1 hc2 h3
            · rw [k3 g]
              constructor
              · rintro ⟨c, c1, c2⟩; exact ⟨c, by omega, c2⟩
              · rintro ⟨c, c1, c2, c3⟩
                by_cases e : c = b
                · subst e; omega
                · exact ⟨c, by omega, c2, c3⟩
        · rw [q1, rl_pos (by omega)] at h30b
          have e30 : gA σ 30 b = nI (q - v) := nI_ofT (by rw [h30b]; omega)
          have hbit2 : ((nI O >>> (nI (q - v) &&& 31)) &&& (1 : Int32)) = 1 ↔ O.testBit (q - v) = true := by
            rw [nx_tb (by omega) (by omega), show (1 : Int32) = nI 1 from rfl, nI_eq (by omega) (by omega), tb_iff]
          rw [e30, hbit2, nx_1shl (by omega), nx_or]
          refine ⟨fun z => ?_, fun _ => ⟨fun z => absurd z (nI_pos (by omega)), fun _ => ⟨fun hO2 => ⟨fun z => absurd z (nI_pos (by omega)), fun _ => ?_⟩, fun hO2 => ?_⟩⟩⟩
          · rw [i_eq, nI_toInt (by omega), show (-2 : Int32).toInt = -2 by decide] at z
            omega
          · have hnew : ∀ c, c < b → s.testBit c = true → grB B v n c ≠ q := fun c hc hsc e => hO2 ((k3 _).mpr ⟨c, hc, hsc, by rw [e]; omega⟩)
            refine ih (b + 1) (O ||| 2 ^ (q - v)) (by omega) (or_lt hO (Nat.pow_lt_pow_right (by decide) (by omega))) (fun c hc hsc => ?_) (fun c e hce he hc1 hc2 h3 => ?_) (fun g => ?_)
            · by_cases e : c = b
              · subst e; omega
              · exact k1 c (by omega) hsc
            · by_cases e2 : e = b
              · subst e2; rw [q1]; exact hnew c hce hc1
              · exact k2 c e hce (by omega) hc1 hc2 h3
            · rw [Nat.testBit_or, tb_pow, Bool.or_eq_true, k3 g, decide_eq_true_iff]
              constructor
              · rintro (⟨c, c1, c2⟩ | e)
                · exact ⟨c, by omega, c2⟩
                · exact ⟨b, by omega, hsb, by rw [q1]; omega⟩
              · rintro ⟨c, c1, c2, c3⟩
                by_cases e : c = b
                · subst e; right; omega
                · exact Or.inl ⟨c, by omega, c2, c3⟩
          · obtain ⟨c, c1, c2, c3⟩ := (k3 _).mp hO2
            exact h0 fun g => g.2.2.1 c b c1 hbl c2 hsb (by omega) (by omega)
      · refine ⟨fun _ => ?_, fun z => absurd z hsb⟩
        refine ih (b + 1) O (by omega) hO (fun c hc hsc => ?_) (fun c e hce he hc1 hc2 h3 => ?_) (fun g => ?_)
        · by_cases e : c = b
          · subst e; exact absurd hsc hsb
          · exact k1 c (by omega) hsc
        · by_cases e2 : e = b
          · subst e2; exact absurd hc2 hsb
          · exact k2 c e hce (by omega) hc1 hc2 h3
        · rw [k3 g]
          constructor
          · rintro ⟨c, c1, c2⟩; exact ⟨c, by omega, c2⟩
          · rintro ⟨c, c1, c2, c3⟩
            by_cases e : c = b
            · subst e; exact absurd c2 hsb
            · exact ⟨c, by omega, c2, c3⟩
  exact vX11_isGood (loop B.length 0 0 (by omega) (by decide) (fun c hc => absurd hc (Nat.not_lt_zero _)) (fun c e _ he => absurd he (Nat.not_lt_zero _)) (fun g => ⟨fun h => by simp at h, fun ⟨c, c1, _⟩ => absurd c1 (Nat.not_lt_zero _)⟩))
end GD
