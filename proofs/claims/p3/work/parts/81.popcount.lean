/-! ===== Integer.bitCount ===== -/
theorem and_split {a b c d : Nat} (hb : b < 2 ^ 8) (hd : d < 2 ^ 8) : (2 ^ 8 * a + b) &&& (2 ^ 8 * c + d) = 2 ^ 8 * (a &&& c) + (b &&& d) := by
  have hbd : b &&& d < 2 ^ 8 := Nat.and_lt_two_pow _ hd
  refine Nat.eq_of_testBit_eq fun j => ?_
  rw [Nat.testBit_and, Nat.testBit_two_pow_mul_add a hb, Nat.testBit_two_pow_mul_add c hd, Nat.testBit_two_pow_mul_add (a &&& c) hbd]
  by_cases h : j < 8
  · simp [h, Nat.testBit_and]
  · simp [h, Nat.testBit_and]
def q1 (M n : Nat) : Nat := n - ((n / 2) &&& M)
def q2 (M n : Nat) : Nat := (n &&& M) + ((n / 4) &&& M)
def q3 (M n : Nat) : Nat := (n + n / 16) &&& M
theorem c1_ok : ∀ a, a < 256 → ∀ e, e < 2 → (128 * e + a / 2) &&& 0x55 = (a / 2) &&& 0x55 := by decide +kernel
theorem c1_le : ∀ a, a < 256 → (a / 2) &&& 0x55 ≤ a := by decide +kernel
theorem c2_ok : ∀ a, a < 256 → ∀ e, e < 4 → (64 * e + a / 4) &&& 0x33 = (a / 4) &&& 0x33 := by decide +kernel
theorem c3_ok : ∀ a, a < 256 → ∀ e, e < 5 → a % 16 ≤ 4 → a / 16 ≤ 4 → (16 * e + a / 16 + a) &&& 0xf = (a + a / 16) &&& 0xf ∧ 16 * e + a / 16 + a < 256 := by decide +kernel
theorem c_all : ∀ a, a < 256 → q1 0x55 a < 256 ∧ q2 0x33 (q1 0x55 a) < 256 ∧ q2 0x33 (q1 0x55 a) % 16 ≤ 4 ∧ q2 0x33 (q1 0x55 a) / 16 ≤ 4 ∧ q3 0xf (q2 0x33 (q1 0x55 a)) = pop 8 a ∧ pop 8 a ≤ 8 := by decide +kernel
theorem and_le (a b : Nat) : a &&& b ≤ a := Nat.and_le_left
theorem q1_s {M m a : Nat} (ha : a < 256) (hm : (m / 2) &&& M ≤ m) : q1 (256 * M + 0x55) (256 * m + a) = 256 * q1 M m + q1 0x55 a ∧ (((256 * m + a) / 2) &&& (256 * M + 0x55)) ≤ 256 * m + a := by
  have e : (256 * m + a) / 2 = 2 ^ 8 * (m / 2) + (128 * (m % 2) + a / 2) := by omega
  have h1 := c1_le a ha
  have h2 : ((256 * m + a) / 2) &&& (256 * M + 0x55) = 256 * ((m / 2) &&& M) + ((a / 2) &&& 0x55) := by
    rw [e, show 256 * M + 0x55 = 2 ^ 8 * M + 0x55 from rfl, and_split (by omega) (by decide), c1_ok a ha (m % 2) (by omega)]
  unfold q1
  rw [h2]
  constructor
  · omega
  · omega
theorem q2_s {M m a : Nat} (ha : a < 256) : q2 (256 * M + 0x33) (256 * m + a) = 256 * q2 M m + q2 0x33 a := by
  have e : (256 * m + a) / 4 = 2 ^ 8 * (m / 4) + (64 * (m % 4) + a / 4) := by omega
  unfold q2
  rw [e, show 256 * M + 0x33 = 2 ^ 8 * M + 0x33 from rfl, show 256 * m + a = 2 ^ 8 * m + a from rfl, and_split (by omega) (by decide), and_split (by omega) (by decide), c2_ok a ha (m % 4) (by omega)]
  omega
theorem q3_s {M m a : Nat} (ha : a < 256) (h1 : a % 16 ≤ 4) (h2 : a / 16 ≤ 4) (h3 : m % 16 ≤ 4) : q3 (256 * M + 0xf) (256 * m + a) = 256 * q3 M m + q3 0xf a := by
  have h4 := c3_ok a ha (m % 16) (by omega) h1 h2
  have e : 256 * m + a + (256 * m + a) / 16 = 2 ^ 8 * (m + m / 16) + (16 * (m % 16) + a / 16 + a) := by omega
  unfold q3
  rw [e, show 256 * M + 0xf = 2 ^ 8 * M + 0xf from rfl, and_split h4.2 (by decide), h4.1]
theorem low_bit {m a k : Nat} (hk : k < 8) : (256 * m + a) / 2 ^ k % 2 = a / 2 ^ k % 2 := by
  have : k = 0 ∨ k = 1 ∨ k = 2 ∨ k = 3 ∨ k = 4 ∨ k = 5 ∨ k = 6 ∨ k = 7 := by omega
  rcases this with h | h | h | h | h | h | h | h <;> subst h <;> omega
theorem pop_low (m a : Nat) : ∀ k, k ≤ 8 → pop k (256 * m + a) = pop k a
  | 0, _ => rfl
  | k + 1, h => by
    show pop k _ + _ = pop k _ + _
    rw [pop_low m a k (by omega), low_bit (by omega)]
theorem pop_high {m a : Nat} (ha : a < 256) : ∀ k, pop (8 + k) (256 * m + a) = pop 8 a + pop k m
  | 0 => pop_low m a 8 (Nat.le_refl _)
  | k + 1 => by
    show pop (8 + k) _ + (256 * m + a) / 2 ^ (8 + k) % 2 = _ + (pop k m + _)
    rw [pop_high ha k, Nat.pow_add, ← Nat.div_div_eq_div_mul, show (256 * m + a) / 2 ^ 8 = m by omega]
    omega
theorem pop_split {a b c : Nat} (ha : a < 256) (hb : b < 256) (hc : c < 64) : pop 22 (256 * (256 * c + b) + a) = pop 8 a + pop 8 b + pop 8 c := by
  rw [show (22 : Nat) = 8 + (8 + 6) from rfl, pop_high ha, pop_high hb]
  have h6 : c / 2 ^ 6 % 2 = 0 := by omega
  have h7 : c / 2 ^ 7 % 2 = 0 := by omega
  have h8 : pop 8 c = pop 6 c := by
    show pop 6 c + c / 2 ^ 6 % 2 + c / 2 ^ 7 % 2 = pop 6 c
    rw [h6, h7, Nat.add_zero]
  rw [h8]
  omega
theorem q_all {n : Nat} (hn : n < 2 ^ 22) : ∃ A B C, q3 0x0f0f0f0f (q2 0x33333333 (q1 0x55555555 n)) = 256 * (256 * C + B) + A ∧ A ≤ 8 ∧ B ≤ 8 ∧ C ≤ 8 ∧ A + B + C = pop 22 n ∧ ((n / 2) &&& 0x55555555) ≤ n ∧ q1 0x55555555 n < 2 ^ 24 ∧ q2 0x33333333 (q1 0x55555555 n) < 2 ^ 24 := by
  obtain ⟨a, b, c, ha, hb, hc, rfl⟩ : ∃ a b c, a < 256 ∧ b < 256 ∧ c < 64 ∧ n = 256 * (256 * c + b) + a := ⟨n % 256, n / 256 % 256, n / 65536, by omega, by omega, by omega, by omega⟩
  have hca := c_all a ha
  have hcb := c_all b hb
  have hcc := c_all c (by omega)
  have s0 := q1_s (M := 0x55) (m := 0) (a := c) (by omega) (by decide)
  have s0' : q1 0x5555 c = q1 0x55 c ∧ ((c / 2) &&& 0x5555) ≤ c := by
    have e0 : q1 0x55 0 = 0 := by decide
    rw [e0] at s0
    simpa using s0
  have s1 := q1_s (M := 0x5555) (m := c) (a := b) hb s0'.2
  have s2 := q1_s (M := 0x555555) (m := 256 * c + b) (a := a) ha s1.2
  rw [s1.1, s0'.1] at s2
  have t0 : q2 0x3333 (q1 0x55 c) = q2 0x33 (q1 0x55 c) := by
    have := q2_s (M := 0x33) (m := 0) (a := q1 0x55 c) hcc.1
    have e0 : q2 0x33 0 = 0 := by decide
    rw [e0] at this
    simpa using this
  have t1 := q2_s (M := 0x3333) (m := q1 0x55 c) (a := q1 0x55 b) hcb.1
  have t2 := q2_s (M := 0x333333) (m := 256 * q1 0x55 c + q1 0x55 b) (a := q1 0x55 a) hca.1
  rw [t1, t0] at t2
  have u0 : q3 0x0f0f (q2 0x33 (q1 0x55 c)) = q3 0xf (q2 0x33 (q1 0x55 c)) := by
    have := q3_s (M := 0xf) (m := 0) (a := q2 0x33 (q1 0x55 c)) hcc.2.1 hcc.2.2.1 hcc.2.2.2.1 (by omega)
    have e0 : q3 0xf 0 = 0 := by decide
    rw [e0] at this
    simpa using this
  have u1 := q3_s (M := 0x0f0f) (m := q2 0x33 (q1 0x55 c)) (a := q2 0x33 (q1 0x55 b)) hcb.2.1 hcb.2.2.1 hcb.2.2.2.1 hcc.2.2.1
  have u2 := q3_s (M := 0x0f0f0f) (m := 256 * q2 0x33 (q1 0x55 c) + q2 0x33 (q1 0x55 b)) (a := q2 0x33 (q1 0x55 a)) hca.2.1 hca.2.2.1 hca.2.2.2.1 (by have := hcb.2.2.1; omega)
  rw [u1, u0, hca.2.2.2.2.1, hcb.2.2.2.2.1, hcc.2.2.2.2.1] at u2
  have f1 : q1 0x55555555 (256 * (256 * c + b) + a) = 256 * (256 * q1 0x55 c + q1 0x55 b) + q1 0x55 a := s2.1
  have f2 : q2 0x33333333 (256 * (256 * q1 0x55 c + q1 0x55 b) + q1 0x55 a) = 256 * (256 * q2 0x33 (q1 0x55 c) + q2 0x33 (q1 0x55 b)) + q2 0x33 (q1 0x55 a) := t2
  refine ⟨pop 8 a, pop 8 b, pop 8 c, ?_, hca.2.2.2.2.2, hcb.2.2.2.2.2, hcc.2.2.2.2.2, (pop_split ha hb hc).symm, s2.2, ?_, ?_⟩
  · rw [f1, f2]
    exact u2
  · rw [f1]
    have := hca.1
    have := hcb.1
    have := hcc.1
    omega
  · rw [f1, f2]
    have := hca.2.1
    have := hcb.2.1
    have := hcc.2.1
    omega
theorem x_bitCount {σ : am_S} {n d : Nat} {Q : Int32 → am_S → Prop} (hn : n < 2 ^ 22) (H : Q (nI (pop 22 n)) σ) : am_K ri am_Lx IJ6_bitCount_0f7a4 (d + 1) [.int (nI n)] σ Q := by
  obtain ⟨A, B, C, h1, hA, hB, hC, h2, h3, h4, h5⟩ := q_all hn
  refine vJ6_bitCount_0f7a4 ?_
  have m1 : (1431655765 : Int32) = nI 0x55555555 := by decide +kernel
  have m2 : (858993459 : Int32) = nI 0x33333333 := by decide +kernel
  have m3 : (252645135 : Int32) = nI 0x0f0f0f0f := by decide +kernel
  have m4 : (63 : Int32) = nI 63 := by decide +kernel
  have s1 : ∀ {k : Nat}, k < 2 ^ 32 → ((nI k).toUInt32 >>> ((1 : Int32).toUInt32 &&& Int32.toUInt32 31)).toInt32 = nI (k / 2) := fun h => pk_ushrN h 1 1 (by decide +kernel)
  have s2 : ∀ {k : Nat}, k < 2 ^ 32 → ((nI k).toUInt32 >>> ((2 : Int32).toUInt32 &&& Int32.toUInt32 31)).toInt32 = nI (k / 4) := fun h => pk_ushrN h 2 2 (by decide +kernel)
  have s3 : ∀ {k : Nat}, k < 2 ^ 32 → ((nI k).toUInt32 >>> ((4 : Int32).toUInt32 &&& Int32.toUInt32 31)).toInt32 = nI (k / 16) := fun h => pk_ushrN h 4 4 (by decide +kernel)
  have s4 : ∀ {k : Nat}, k < 2 ^ 32 → ((nI k).toUInt32 >>> ((8 : Int32).toUInt32 &&& Int32.toUInt32 31)).toInt32 = nI (k / 256) := fun h => pk_ushrN h 8 8 (by decide +kernel)
  have s5 : ∀ {k : Nat}, k < 2 ^ 32 → ((nI k).toUInt32 >>> ((16 : Int32).toUInt32 &&& Int32.toUInt32 31)).toInt32 = nI (k / 65536) := fun h => pk_ushrN h 16 16 (by decide +kernel)
  have e1 : nI n - (((nI n).toUInt32 >>> ((1 : Int32).toUInt32 &&& Int32.toUInt32 31)).toInt32 &&& (1431655765 : Int32)) = nI (q1 0x55555555 n) := by
    rw [s1 (by omega), m1, nx_and, pk_sub h3]
    rfl
  rw [e1]
  generalize q1 0x55555555 n = n1 at h1 h4 h5 ⊢
  have e2 : (nI n1 &&& (858993459 : Int32)) + (((nI n1).toUInt32 >>> ((2 : Int32).toUInt32 &&& Int32.toUInt32 31)).toInt32 &&& (858993459 : Int32)) = nI (q2 0x33333333 n1) := by
    rw [s2 (by omega), m2, nx_and, nx_and, nI_add]
    rfl
  rw [e2]
  generalize q2 0x33333333 n1 = n2 at h1 h5 ⊢
  have e3 : (nI n2 + ((nI n2).toUInt32 >>> ((4 : Int32).toUInt32 &&& Int32.toUInt32 31)).toInt32) &&& (252645135 : Int32) = nI (256 * (256 * C + B) + A) := by
    rw [s3 (by omega), nI_add, m3, nx_and, ← h1]
    rfl
  rw [e3, s4 (by omega), nI_add, s5 (by omega), nI_add, m4, nx_and]
  have e4 : (256 * (256 * C + B) + A + (256 * (256 * C + B) + A) / 256 + (256 * (256 * C + B) + A + (256 * (256 * C + B) + A) / 256) / 65536) &&& 63 = pop 22 n := by
    have d1 : (256 * (256 * C + B) + A) / 256 = 256 * C + B := by omega
    have d2 : (256 * (256 * C + B) + A + (256 * C + B)) / 65536 = C := by omega
    rw [d1, d2, show (63 : Nat) = 2 ^ 6 - 1 from rfl, Nat.and_two_pow_sub_one_eq_mod, ← h2]
    clear h1 h2 h3 h4 h5 d1 d2
    omega
  rw [e4]
  exact H
