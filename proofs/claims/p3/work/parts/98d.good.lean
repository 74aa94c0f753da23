/-! ===== GOOD SETS: counted by inclusion and exclusion, listed in their order ===== -/
/-- the bits of one that the other has not -/
def adn (a b : Nat) : Nat := a &&& (b ^^^ 4294967295)
theorem adn_tb {a b : Nat} (ha : a < 2 ^ 32) (j : Nat) : (adn a b).testBit j = (a.testBit j && !b.testBit j) := by
  unfold adn
  rw [Nat.testBit_and, Nat.testBit_xor, show (4294967295 : Nat) = 2 ^ 32 - 1 from rfl, Nat.testBit_two_pow_sub_one]
  by_cases h : j < 32
  · simp [h]
  · rw [Nat.testBit_lt_two_pow (Nat.lt_of_lt_of_le ha (Nat.pow_le_pow_right (by decide) (by omega)))]
    simp
theorem adn_le (a b : Nat) : adn a b ≤ a := Nat.and_le_left
theorem nx_xor (a b : Nat) : nI a ^^^ nI b = nI (a ^^^ b) := by
  apply Int32.toBitVec_inj.1
  show BitVec.ofNat 32 a ^^^ BitVec.ofNat 32 b = BitVec.ofNat 32 (a ^^^ b)
  apply BitVec.eq_of_getLsbD_eq
  intro i hi
  simp [hi]
theorem nx_adn (a b : Nat) : nI a &&& (nI b ^^^ (-1 : Int32)) = nI (adn a b) := by
  rw [show (-1 : Int32) = nI 4294967295 by decide, nx_xor, nx_and]
  rfl
theorem adn_0 {o a : Nat} (h : o < 2 ^ 32) : adn o a = 0 ↔ ∀ j, o.testBit j = true → a.testBit j = true := by
  constructor
  · intro e j hj
    have := adn_tb (b := a) h j
    rw [e, hj] at this
    simpa using this.symm
  · intro hh
    apply Nat.eq_of_testBit_eq
    intro j
    rw [adn_tb h]
    cases q : o.testBit j with
    | false => simp
    | true => simp [hh j q]
theorem adn_0le {o a : Nat} (h : o < 2 ^ 32) (e : adn o a = 0) : o ≤ a := by
  have : o &&& a = o := by
    apply Nat.eq_of_testBit_eq
    intro j
    rw [Nat.testBit_and]
    cases q : o.testBit j with
    | false => simp
    | true => simp [(adn_0 h).mp e j q]
  rw [← this]
  exact Nat.and_le_right
theorem and_0 {c o : Nat} : c &&& o = 0 ↔ ∀ j, ¬ (c.testBit j = true ∧ o.testBit j = true) := by
  constructor
  · intro e j hj
    have : (c &&& o).testBit j = true := by rw [Nat.testBit_and, hj.1, hj.2]; rfl
    rw [e] at this
    simp at this
  · intro hh
    apply Nat.eq_of_testBit_eq
    intro j
    rw [Nat.testBit_and]
    cases q : c.testBit j with
    | false => simp
    | true =>
      cases r : o.testBit j with
      | false => simp
      | true => exact absurd ⟨q, r⟩ (hh j)
theorem tb_pow (g j : Nat) : (2 ^ g).testBit j = decide (g = j) := Nat.testBit_two_pow
/-! how many ways -/
def wf2 (cov : Nat → Nat) (gr : Nat → Int) (out : Nat) : Nat → Nat
  | 0 => 1
  | b + 1 => if cov b &&& out = 0 ∧ gr b = -1 then wf2 cov gr out b * 2 else wf2 cov gr out b
def wct (cov : Nat → Nat) (gr : Nat → Int) (out j : Nat) : Nat → Nat
  | 0 => 0
  | b + 1 => wct cov gr out j b + (if cov b &&& out = 0 ∧ gr b = j then 1 else 0)
def wpr (f : Nat → Nat) (lack v : Nat) : Nat → Nat
  | 0 => 1
  | m + 1 => wpr f lack v m * (if lack.testBit (v + m) then f (v + m) else 1)
theorem wpr_eq {f f' : Nat → Nat} {l l' v : Nat} : ∀ {m : Nat}, (∀ j, v ≤ j → j < v + m → f' j = f j ∧ l'.testBit j = l.testBit j) → wpr f' l' v m = wpr f l v m
  | 0, _ => rfl
  | m + 1, h => by
    have h1 := h (v + m) (by omega) (by omega)
    simp only [wpr]
    rw [wpr_eq (m := m) fun j a b => h j a (by omega), h1.1, h1.2]
theorem wpr_step {f f' : Nat → Nat} {l v g : Nat} (hl : l < 2 ^ 32) (hf : ∀ j, j ≠ g → f' j = f j) (hg : f' g = f g + 1) (hb : l.testBit g = true) : ∀ {m : Nat}, v ≤ g → g < v + m → wpr f' l v m = wpr f l v m + wpr f (adn l (2 ^ g)) v m
  | 0, h1, h2 => by omega
  | m + 1, h1, h2 => by
    have hbit : ∀ j, j ≠ g → (adn l (2 ^ g)).testBit j = l.testBit j := fun j hj => by
      rw [adn_tb hl, tb_pow]
      simp [Ne.symm hj]
    have hbg : (adn l (2 ^ g)).testBit g = false := by
      rw [adn_tb hl, tb_pow]
      simp
    simp only [wpr]
    by_cases e : g = v + m
    · subst e
      rw [wpr_eq (f := f) (f' := f') (l := l) (l' := l) (m := m) (fun j a b => ⟨hf j (by omega), rfl⟩), wpr_eq (f := f) (f' := f) (l := l) (l' := adn l (2 ^ (v + m))) (m := m) (fun j a b => ⟨rfl, hbit j (by omega)⟩), hbg, hb, hg]
      simp [Nat.mul_add]
    · rw [wpr_step hl hf hg hb (m := m) h1 (by omega), hbit (v + m) (Ne.symm e), hf (v + m) (Ne.symm e), Nat.add_mul]
theorem wpr_z {l v : Nat} : ∀ {m : Nat}, (∃ j, v ≤ j ∧ j < v + m ∧ l.testBit j = true) → wpr (fun _ => 0) l v m = 0
  | 0, ⟨j, h⟩ => by omega
  | m + 1, ⟨j, j1, j2, j3⟩ => by
    simp only [wpr]
    by_cases e : j = v + m
    · subst e
      rw [if_pos j3, Nat.mul_zero]
    · rw [wpr_z (m := m) ⟨j, j1, by omega, j3⟩, Nat.zero_mul]
theorem wpr_1 {l v : Nat} : ∀ {m : Nat}, l = 0 → wpr (fun _ => 0) l v m = 1
  | 0, _ => rfl
  | m + 1, h => by
    simp only [wpr]
    rw [wpr_1 (m := m) h, h]
    simp
section GO
variable {cov : Nat → Nat} {gr : Nat → Int} {v n : Nat}
def ways (cov : Nat → Nat) (gr : Nat → Int) (v n from' out lack : Nat) : Nat := wf2 cov gr out from' * wpr (fun j => wct cov gr out j from') lack v (n - v)
theorem ways_s {b out lack : Nat} (hl : lack < 2 ^ 32) (hg : gr b = -2 ∨ gr b = -1 ∨ ∃ g : Nat, gr b = g ∧ v ≤ g ∧ g < n) : ways cov gr v n (b + 1) out lack = ways cov gr v n b out lack + (if cov b &&& out = 0 then (if gr b = -2 then 0 else if gr b < 0 then ways cov gr v n b out lack else if lack.testBit (gr b).toNat then ways cov gr v n b out (adn lack (2 ^ (gr b).toNat)) else 0) else 0) := by
  unfold ways
  by_cases h0 : cov b &&& out = 0
  · rw [if_pos h0]
    rcases hg with h | h | ⟨g, h, h1, h2⟩
    · rw [if_pos h, Nat.add_zero]
      congr 1
      · simp only [wf2, h]
        simp
      · refine wpr_eq fun j _ _ => ⟨?_, rfl⟩
        simp only [wct]
        rw [if_neg (by rw [h]; omega)]
        rfl
    · rw [if_neg (by omega), if_pos (by omega)]
      have e1 : wf2 cov gr out (b + 1) = wf2 cov gr out b * 2 := by
        simp only [wf2]
        rw [if_pos ⟨h0, h⟩]
      rw [e1, wpr_eq (f := fun j => wct cov gr out j b) (l := lack) (fun j _ _ => ⟨by simp only [wct]; rw [if_neg (by rw [h]; omega)]; rfl, rfl⟩), Nat.mul_assoc, Nat.mul_comm 2, ← Nat.mul_assoc]
      omega
    · have e1 : wf2 cov gr out (b + 1) = wf2 cov gr out b := by
        simp only [wf2]
        rw [if_neg (by rw [h]; omega)]
      rw [if_neg (by omega), if_neg (by omega), e1, h, Int.toNat_natCast]
      have hf : ∀ j, j ≠ g → wct cov gr out j (b + 1) = wct cov gr out j b := fun j hj => by
        simp only [wct]
        rw [if_neg (by rw [h]; omega)]
        rfl
      have hg2 : wct cov gr out g (b + 1) = wct cov gr out g b + 1 := by
        simp only [wct]
        rw [if_pos ⟨h0, h⟩]
      by_cases h3 : lack.testBit g = true
      · rw [if_pos h3, wpr_step (f := fun j => wct cov gr out j b) (f' := fun j => wct cov gr out j (b + 1)) hl hf hg2 h3 (v := v) (m := n - v) h1 (by omega), Nat.mul_add]
      · rw [if_neg h3, Nat.add_zero]
        congr 1
        have : ∀ m, wpr (fun j => wct cov gr out j (b + 1)) lack v m = wpr (fun j => wct cov gr out j b) lack v m := by
          intro m
          induction m with
          | zero => rfl
          | succ m ih =>
            simp only [wpr]
            rw [ih]
            by_cases e : v + m = g
            · rw [e, if_neg h3, if_neg h3]
            · rw [hf _ e]
        exact this _
  · rw [if_neg h0, Nat.add_zero]
    congr 1
    · simp only [wf2]
      rw [if_neg (fun z => h0 z.1)]
    · refine wpr_eq fun j _ _ => ⟨?_, rfl⟩
      simp only [wct]
      rw [if_neg (fun z => h0 z.1)]
      rfl
/-! sums over the sets of variables that are left out -/
def sgn (o : Nat) : Int := if pop 22 o % 2 = 0 then 1 else -1
def sbs (bare : Nat) (f : Nat → Int) : Nat → Int
  | 0 => 0
  | k + 1 => sbs bare f k + (if adn k bare = 0 then f k else 0)
theorem sbs_add (bare : Nat) (f g : Nat → Int) : ∀ k, sbs bare (fun o => f o + g o) k = sbs bare f k + sbs bare g k
  | 0 => rfl
  | k + 1 => by
    simp only [sbs]
    rw [sbs_add bare f g k]
    split <;> omega
theorem sbs_mul (bare : Nat) (c : Int) (f : Nat → Int) : ∀ k, sbs bare (fun o => f o * c) k = sbs bare f k * c
  | 0 => by simp [sbs]
  | k + 1 => by
    simp only [sbs]
    rw [sbs_mul bare c f k]
    split
    · rw [Int.add_mul]
    · simp
theorem sbs_eq {a b : Nat} {f g : Nat → Int} : ∀ {k : Nat}, (∀ o, o < k → (if adn o a = 0 then f o else 0) = (if adn o b = 0 then g o else 0)) → sbs a f k = sbs b g k
  | 0, _ => rfl
  | k + 1, h => by
    simp only [sbs]
    rw [sbs_eq (k := k) fun o ho => h o (by omega), h k (by omega)]
theorem sbs_all : ∀ b, b < 64 → sbs b sgn 64 = if b = 0 then 1 else 0 := by decide +kernel
theorem sbs_top {a : Nat} {f : Nat → Int} (ha : a < 64) : ∀ k, a < k → k ≤ 64 → sbs a f k = sbs a f (a + 1)
  | 0, h, _ => by omega
  | k + 1, h, h2 => by
    by_cases e : k = a
    · rw [e]
    · simp only [sbs]
      rw [if_neg (fun z => by have := adn_0le (o := k) (by omega) z; omega), sbs_top ha k (by omega) (by omega)]
      simp only [sbs]
      omega
theorem sbs_cut {a c : Nat} (ha : a < 64) {h : Nat → Int} : sbs a (fun o => if c &&& o = 0 then h o else 0) 64 = sbs (adn a c) h 64 := by
  refine sbs_eq fun o ho => ?_
  have e : (adn o a = 0 ∧ c &&& o = 0) ↔ adn o (adn a c) = 0 := by
    rw [adn_0 (by omega), adn_0 (by omega), and_0]
    constructor
    · rintro ⟨h1, h2⟩ j hj
      rw [adn_tb (by omega), h1 j hj]
      cases q : c.testBit j with
      | false => rfl
      | true => exact absurd ⟨q, hj⟩ (h2 j)
    · intro hh
      refine ⟨fun j hj => ?_, fun j hj => ?_⟩
      · have := hh j hj
        rw [adn_tb (by omega), Bool.and_eq_true] at this
        exact this.1
      · have := hh j hj.2
        rw [adn_tb (by omega), hj.1] at this
        simp at this
  by_cases h1 : adn o a = 0
  · rw [if_pos h1]
    by_cases h2 : c &&& o = 0
    · rw [if_pos h2, if_pos (e.mp ⟨h1, h2⟩)]
    · rw [if_neg h2, if_neg (fun z => h2 (e.mpr z).2)]
  · rw [if_neg h1, if_neg (fun z => h1 (e.mpr z).1)]
/-! the list -/
def gls (cov : Nat → Nat) (gr : Nat → Int) : Nat → Nat → Nat → List Nat
  | 0, bare, lack => if bare = 0 ∧ lack = 0 then [0] else []
  | b + 1, bare, lack => gls cov gr b bare lack ++ (if gr b = -2 then [] else if gr b < 0 then (gls cov gr b (adn bare (cov b)) lack).map (2 ^ b + ·) else if lack.testBit (gr b).toNat then (gls cov gr b (adn bare (cov b)) (adn lack (2 ^ (gr b).toNat))).map (2 ^ b + ·) else [])
theorem adn_bits {l g : Nat} (hl : l < 2 ^ 32) (h : ∀ j, l.testBit j = true → v ≤ j ∧ j < n) : ∀ j, (adn l g).testBit j = true → v ≤ j ∧ j < n := fun j hj => by
  rw [adn_tb hl, Bool.and_eq_true] at hj
  exact h j hj.1
theorem gls_count : ∀ (b : Nat) (bare lack : Nat), bare < 64 → lack < 2 ^ 32 → (∀ j, lack.testBit j = true → v ≤ j ∧ j < n) → (∀ c, c < b → gr c = -2 ∨ gr c = -1 ∨ ∃ g : Nat, gr c = g ∧ v ≤ g ∧ g < n) → sbs bare (fun o => sgn o * (ways cov gr v n b o lack : Nat)) 64 = ((gls cov gr b bare lack).length : Int)
  | 0, bare, lack, hb, hl, hr, hg => by
    have e : ∀ o, ways cov gr v n 0 o lack = if lack = 0 then 1 else 0 := fun o => by
      unfold ways
      simp only [wf2, Nat.one_mul]
      have : (fun j => wct cov gr o j 0) = fun _ => 0 := rfl
      rw [this]
      by_cases h : lack = 0
      · rw [if_pos h, wpr_1 h]
      · rw [if_neg h]
        obtain ⟨j, hj⟩ := Nat.exists_testBit_of_ne_zero h
        have := hr j hj
        exact wpr_z ⟨j, this.1, by omega, hj⟩
    simp only [e]
    rw [sbs_mul, sbs_all bare hb]
    simp only [gls]
    by_cases h1 : bare = 0
    · by_cases h2 : lack = 0
      · simp [h1, h2]
      · simp [h1, h2]
    · simp [h1]
  | b + 1, bare, lack, hb, hl, hr, hg => by
    have ih := fun bare lack h1 h2 h3 => gls_count b bare lack h1 h2 h3 fun c hc => hg c (by omega)
    have hgb := hg b (by omega)
    simp only [ways_s hl hgb]
    have e1 : ∀ o, sgn o * ((ways cov gr v n b o lack + (if cov b &&& o = 0 then (if gr b = -2 then 0 else if gr b < 0 then ways cov gr v n b o lack else if lack.testBit (gr b).toNat then ways cov gr v n b o (adn lack (2 ^ (gr b).toNat)) else 0) else 0) : Nat) : Int) = sgn o * (ways cov gr v n b o lack : Nat) + (if cov b &&& o = 0 then sgn o * (((if gr b = -2 then 0 else if gr b < 0 then ways cov gr v n b o lack else if lack.testBit (gr b).toNat then ways cov gr v n b o (adn lack (2 ^ (gr b).toNat)) else 0) : Nat) : Int) else 0) := fun o => by
      rw [Int.natCast_add, Int.mul_add]
      split <;> simp
    simp only [e1]
    rw [sbs_add, ih bare lack hb hl hr, sbs_cut hb]
    simp only [gls]
    rw [List.length_append, Int.natCast_add]
    congr 1
    have hb2 : adn bare (cov b) < 64 := Nat.lt_of_le_of_lt (adn_le _ _) hb
    by_cases h1 : gr b = -2
    · simp only [if_pos h1]
      have := sbs_mul (adn bare (cov b)) 0 sgn 64
      simpa using this
    · simp only [if_neg h1]
      by_cases h2 : gr b < 0
      · simp only [if_pos h2]
        rw [List.length_map]
        exact ih _ _ hb2 hl hr
      · simp only [if_neg h2]
        by_cases h3 : lack.testBit (gr b).toNat = true
        · simp only [if_pos h3]
          rw [List.length_map]
          exact ih _ _ hb2 (Nat.lt_of_le_of_lt (adn_le _ _) hl) (adn_bits hl hr)
        · simp only [if_neg h3]
          have := sbs_mul (adn bare (cov b)) 0 sgn 64
          simpa using this
theorem gls_lt : ∀ {b bare lack s : Nat}, s ∈ gls cov gr b bare lack → s < 2 ^ b
  | 0, bare, lack, s, h => by
    simp only [gls] at h
    split at h
    · rw [List.mem_singleton.mp h]; decide
    · simp at h
  | b + 1, bare, lack, s, h => by
    have hp : 2 ^ (b + 1) = 2 ^ b + 2 ^ b := by rw [Nat.pow_succ]; omega
    simp only [gls] at h
    rcases List.mem_append.mp h with h | h
    · have := gls_lt h
      omega
    · split at h
      · simp at h
      · split at h
        · obtain ⟨r, hr, e⟩ := List.mem_map.mp h
          have := gls_lt hr
          omega
        · split at h
          · obtain ⟨r, hr, e⟩ := List.mem_map.mp h
            have := gls_lt hr
            omega
          · simp at h
theorem gls_sorted : ∀ {b bare lack : Nat}, (gls cov gr b bare lack).Pairwise (· < ·)
  | 0, bare, lack => by
    simp only [gls]
    split <;> simp
  | b + 1, bare, lack => by
    have hm : ∀ {x y : Nat}, ((gls cov gr b x y).map (2 ^ b + ·)).Pairwise (· < ·) := fun {x y} => by
      rw [List.pairwise_map]
      exact List.Pairwise.imp (fun h => by omega) (gls_sorted (b := b) (bare := x) (lack := y))
    have hx : ∀ {x y z w : Nat}, ∀ s ∈ gls cov gr b x y, ∀ t ∈ (gls cov gr b z w).map (2 ^ b + ·), s < t := fun s hs t ht => by
      obtain ⟨r, hr, e⟩ := List.mem_map.mp ht
      have := gls_lt hs
      omega
    simp only [gls]
    refine List.pairwise_append.mpr ⟨gls_sorted, ?_, ?_⟩
    · split
      · simp
      · split
        · exact hm
        · split
          · exact hm
          · simp
    · intro s hs t ht
      split at ht
      · simp at ht
      · split at ht
        · exact hx s hs t ht
        · split at ht
          · exact hx s hs t ht
          · simp at ht
/-- a good set, told in words -/
def gdS (cov : Nat → Nat) (gr : Nat → Int) (b bare lack s : Nat) : Prop := s < 2 ^ b ∧ (∀ c, c < b → s.testBit c = true → gr c ≠ -2 ∧ (0 ≤ gr c → lack.testBit (gr c).toNat = true)) ∧ (∀ c e, c < e → e < b → s.testBit c = true → s.testBit e = true → 0 ≤ gr c → gr c ≠ gr e) ∧ (∀ j, lack.testBit j = true → ∃ c, c < b ∧ s.testBit c = true ∧ gr c = j) ∧ (∀ j, bare.testBit j = true → ∃ c, c < b ∧ s.testBit c = true ∧ (cov c).testBit j = true)
theorem tb_hi {s b c : Nat} (h : s < 2 ^ b) (hc : b ≤ c) : s.testBit c = false := Nat.testBit_lt_two_pow (Nat.lt_of_lt_of_le h (Nat.pow_le_pow_right (by decide) hc))
theorem gls_mem : ∀ {b bare lack s : Nat}, bare < 2 ^ 32 → lack < 2 ^ 32 → (∀ c, c < b → gr c = -2 ∨ -1 ≤ gr c) → (s ∈ gls cov gr b bare lack ↔ gdS cov gr b bare lack s)
  | 0, bare, lack, s, hb, hl, _ => by
    simp only [gls]
    constructor
    · intro h
      split at h
      · rename_i e
        rw [List.mem_singleton] at h
        subst h
        rw [e.1, e.2]
        refine ⟨by decide, fun c hc => by omega, fun c e _ hc => by omega, fun j hj => ?_, fun j hj => ?_⟩
        · simp at hj
        · simp at hj
      · simp at h
    · rintro ⟨h1, _, _, h4, h5⟩
      have e1 : bare = 0 := by
        refine Classical.byContradiction fun h => ?_
        obtain ⟨j, hj⟩ := Nat.exists_testBit_of_ne_zero h
        obtain ⟨c, hc, _⟩ := h5 j hj
        omega
      have e2 : lack = 0 := by
        refine Classical.byContradiction fun h => ?_
        obtain ⟨j, hj⟩ := Nat.exists_testBit_of_ne_zero h
        obtain ⟨c, hc, _⟩ := h4 j hj
        omega
      rw [if_pos ⟨e1, e2⟩, List.mem_singleton]
      omega
  | b + 1, bare, lack, s, hb, hl, hgr => by
    have hp : 2 ^ (b + 1) = 2 ^ b + 2 ^ b := by rw [Nat.pow_succ]; omega
    have ih := fun (bare lack s : Nat) (h1 : bare < 2 ^ 32) (h2 : lack < 2 ^ 32) => gls_mem (b := b) (bare := bare) (lack := lack) (s := s) h1 h2 fun c hc => hgr c (by omega)
    have hbA : adn bare (cov b) < 2 ^ 32 := Nat.lt_of_le_of_lt (adn_le _ _) hb
    have hlA : ∀ g, adn lack g < 2 ^ 32 := fun g => Nat.lt_of_le_of_lt (adn_le _ _) hl
    have lo : ∀ {r c : Nat}, c < b → (2 ^ b + r).testBit c = r.testBit c := fun {r c} hc => Nat.testBit_two_pow_add_gt hc r
    have hi : ∀ {r : Nat}, r < 2 ^ b → (2 ^ b + r).testBit b = true := fun {r} hr => by
      rw [Nat.testBit_two_pow_add_eq, tb_hi hr (Nat.le_refl _)]
      rfl
    simp only [gls]
    rw [List.mem_append]
    constructor
    · rintro (h | h)
      · obtain ⟨h1, h2, h3, h4, h5⟩ := (ih bare lack s hb hl).mp h
        have hsb := tb_hi h1 (Nat.le_refl b)
        refine ⟨by omega, fun c hc hs => ?_, fun c e hce he hs1 hs2 => ?_, fun j hj => ?_, fun j hj => ?_⟩
        · by_cases e : c = b
          · rw [e, hsb] at hs; cases hs
          · exact h2 c (by omega) hs
        · by_cases e2 : e = b
          · rw [e2, hsb] at hs2; cases hs2
          · exact h3 c e hce (by omega) hs1 hs2
        · obtain ⟨c, c1, c2⟩ := h4 j hj
          exact ⟨c, by omega, c2⟩
        · obtain ⟨c, c1, c2⟩ := h5 j hj
          exact ⟨c, by omega, c2⟩
      · split at h
        · simp at h
        · rename_i hg2
          split at h
          · rename_i hneg
            obtain ⟨r, hr, e⟩ := List.mem_map.mp h
            subst e
            obtain ⟨h1, h2, h3, h4, h5⟩ := (ih _ _ _ hbA hl).mp hr
            refine ⟨by omega, fun c hc hs => ?_, fun c e hce he hs1 hs2 h0 => ?_, fun j hj => ?_, fun j hj => ?_⟩
            · by_cases e : c = b
              · subst e; exact ⟨hg2, fun z => by omega⟩
              · rw [lo (by omega)] at hs; exact h2 c (by omega) hs
            · by_cases e2 : e = b
              · subst e2; intro z; omega
              · rw [lo (by omega)] at hs1 hs2; exact h3 c e hce (by omega) hs1 hs2 h0
            · obtain ⟨c, c1, c2, c3⟩ := h4 j hj
              exact ⟨c, by omega, by rw [lo c1]; exact c2, c3⟩
            · by_cases hcj : (cov b).testBit j = true
              · exact ⟨b, by omega, hi h1, hcj⟩
              · obtain ⟨c, c1, c2, c3⟩ := h5 j (by rw [adn_tb hb, hj]; simp [hcj])
                exact ⟨c, by omega, by rw [lo c1]; exact c2, c3⟩
          · rename_i hneg
            split at h
            · rename_i hlk
              obtain ⟨r, hr, e⟩ := List.mem_map.mp h
              subst e
              obtain ⟨h1, h2, h3, h4, h5⟩ := (ih _ _ _ hbA (hlA _)).mp hr
              refine ⟨by omega, fun c hc hs => ?_, fun c e hce he hs1 hs2 h0 => ?_, fun j hj => ?_, fun j hj => ?_⟩
              · by_cases e : c = b
                · subst e; exact ⟨hg2, fun _ => hlk⟩
                · rw [lo (by omega)] at hs
                  obtain ⟨q1, q2⟩ := h2 c (by omega) hs
                  refine ⟨q1, fun z => ?_⟩
                  have := q2 z
                  rw [adn_tb hl, Bool.and_eq_true] at this
                  exact this.1
              · by_cases e2 : e = b
                · subst e2
                  rw [lo (by omega)] at hs1
                  intro z
                  have := (h2 c (by omega) hs1).2 h0
                  rw [adn_tb hl, tb_pow, z] at this
                  simp at this
                · rw [lo (by omega)] at hs1 hs2; exact h3 c e hce (by omega) hs1 hs2 h0
              · by_cases hjg : (gr b).toNat = j
                · exact ⟨b, by omega, hi h1, by omega⟩
                · obtain ⟨c, c1, c2, c3⟩ := h4 j (by rw [adn_tb hl, hj, tb_pow]; simp [hjg])
                  exact ⟨c, by omega, by rw [lo c1]; exact c2, c3⟩
              · by_cases hcj : (cov b).testBit j = true
                · exact ⟨b, by omega, hi h1, hcj⟩
                · obtain ⟨c, c1, c2, c3⟩ := h5 j (by rw [adn_tb hb, hj]; simp [hcj])
                  exact ⟨c, by omega, by rw [lo c1]; exact c2, c3⟩
            · simp at h
    · rintro ⟨h1, h2, h3, h4, h5⟩
      rcases Nat.lt_or_ge s (2 ^ b) with hs | hs
      · have hsb := tb_hi hs (Nat.le_refl b)
        have down : ∀ {p : Nat → Prop}, (∃ c, c < b + 1 ∧ s.testBit c = true ∧ p c) → ∃ c, c < b ∧ s.testBit c = true ∧ p c := by
          rintro p ⟨c, c1, c2, c3⟩
          refine ⟨c, ?_, c2, c3⟩
          rcases Nat.lt_or_ge c b with q | q
          · exact q
          · rw [show c = b by omega, hsb] at c2; cases c2
        exact Or.inl ((ih bare lack s hb hl).mpr ⟨hs, fun c hc => h2 c (by omega), fun c e hce he => h3 c e hce (by omega), fun j hj => down (h4 j hj), fun j hj => down (h5 j hj)⟩)
      · obtain ⟨r, rfl⟩ : ∃ r, s = 2 ^ b + r := ⟨s - 2 ^ b, by omega⟩
        have hr : r < 2 ^ b := by omega
        obtain ⟨q1, q2⟩ := h2 b (by omega) (hi hr)
        right
        rw [if_neg q1]
        by_cases hneg : gr b < 0
        · rw [if_pos hneg]
          refine List.mem_map.mpr ⟨r, (ih _ _ _ hbA hl).mpr ⟨hr, fun c hc hs => h2 c (by omega) (by rw [lo hc]; exact hs), fun c e hce he hs1 hs2 => h3 c e hce (by omega) (by rw [lo (by omega)]; exact hs1) (by rw [lo he]; exact hs2), fun j hj => ?_, fun j hj => ?_⟩, rfl⟩
          · obtain ⟨c, c1, c2, c3⟩ := h4 j hj
            by_cases e : c = b
            · subst e; omega
            · exact ⟨c, by omega, by rw [lo (by omega)] at c2; exact c2, c3⟩
          · rw [adn_tb hb, Bool.and_eq_true] at hj
            obtain ⟨c, c1, c2, c3⟩ := h5 j hj.1
            by_cases e : c = b
            · subst e; rw [c3] at hj; simp at hj
            · exact ⟨c, by omega, by rw [lo (by omega)] at c2; exact c2, c3⟩
        · rw [if_neg hneg, if_pos (q2 (by omega))]
          refine List.mem_map.mpr ⟨r, (ih _ _ _ hbA (hlA _)).mpr ⟨hr, fun c hc hs => ?_, fun c e hce he hs1 hs2 => h3 c e hce (by omega) (by rw [lo (by omega)]; exact hs1) (by rw [lo he]; exact hs2), fun j hj => ?_, fun j hj => ?_⟩, rfl⟩
          · obtain ⟨w1, w2⟩ := h2 c (by omega) (by rw [lo hc]; exact hs)
            refine ⟨w1, fun z => ?_⟩
            rw [adn_tb hl, w2 z, tb_pow]
            have hne := h3 c b hc (by omega) (by rw [lo hc]; exact hs) (hi hr) z
            have : ¬ (gr b).toNat = (gr c).toNat := by omega
            simp [this]
          · rw [adn_tb hl, tb_pow, Bool.and_eq_true] at hj
            obtain ⟨c, c1, c2, c3⟩ := h4 j hj.1
            by_cases e : c = b
            · subst e
              rw [c3] at hj
              simp at hj
            · exact ⟨c, by omega, by rw [lo (by omega)] at c2; exact c2, c3⟩
          · rw [adn_tb hb, Bool.and_eq_true] at hj
            obtain ⟨c, c1, c2, c3⟩ := h5 j hj.1
            by_cases e : c = b
            · subst e; rw [c3] at hj; simp at hj
            · exact ⟨c, by omega, by rw [lo (by omega)] at c2; exact c2, c3⟩
end GO
