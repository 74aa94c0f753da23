/-! ===== rows of numbers in a long ===== -/
def rV : Nat → List Nat → Nat
  | _, [] => 0
  | i, a :: l => a * 2 ^ (42 - 6 * i) + rV (i + 1) l
def rE (k : Nat) (l : List Nat) : Nat := k * 2 ^ 52 + l.length * 2 ^ 48 + rV 0 l
def rG (l : List Nat) : Prop := l.length ≤ 8 ∧ ∀ a ∈ l, a < 64
theorem rV_lt : ∀ (l : List Nat) (i : Nat), i + l.length ≤ 8 → (∀ a ∈ l, a < 64) → rV i l < 2 ^ (48 - 6 * i)
  | [], i, _, _ => Nat.two_pow_pos _
  | a :: l, i, h, g => by
    simp only [List.length_cons] at h
    have h1 := rV_lt l (i + 1) (by omega) fun x hx => g x (List.mem_cons_of_mem _ hx)
    have ha := g a List.mem_cons_self
    rw [show 48 - 6 * (i + 1) = 42 - 6 * i by omega] at h1
    rw [show 48 - 6 * i = (42 - 6 * i) + 6 by omega, Nat.pow_add]
    show a * 2 ^ (42 - 6 * i) + rV (i + 1) l < 2 ^ (42 - 6 * i) * 64
    have h2 : a * 2 ^ (42 - 6 * i) ≤ 63 * 2 ^ (42 - 6 * i) := Nat.mul_le_mul_right _ (by omega)
    omega
theorem rV_app : ∀ (l m : List Nat) (i : Nat), rV i (l ++ m) = rV i l + rV (i + l.length) m
  | [], m, i => by show rV i m = 0 + rV (i + 0) m; rw [Nat.zero_add, Nat.add_zero]
  | a :: l, m, i => by
    show a * 2 ^ (42 - 6 * i) + rV (i + 1) (l ++ m) = a * 2 ^ (42 - 6 * i) + rV (i + 1) l + rV (i + (l.length + 1)) m
    rw [rV_app l m (i + 1), show i + 1 + l.length = i + (l.length + 1) by omega, Nat.add_assoc]
theorem rV_dvd : ∀ (l : List Nat) (i : Nat), i + l.length ≤ 8 → 2 ^ (48 - 6 * (i + l.length)) ∣ rV i l
  | [], _, _ => ⟨0, rfl⟩
  | a :: l, i, h => by
    simp only [List.length_cons] at h
    have h1 := rV_dvd l (i + 1) (by omega)
    rw [show i + 1 + l.length = i + (l.length + 1) by omega] at h1
    exact Nat.dvd_add (Nat.dvd_trans (Nat.pow_dvd_pow 2 (show 48 - 6 * (i + (l.length + 1)) ≤ 42 - 6 * i by omega)) (Nat.dvd_mul_left _ _)) h1
theorem rV_64 : ∀ (l : List Nat) (i : Nat), i + 1 + l.length ≤ 8 → rV i l = 64 * rV (i + 1) l
  | [], _, _ => rfl
  | a :: l, i, h => by
    simp only [List.length_cons] at h
    show a * 2 ^ (42 - 6 * i) + rV (i + 1) l = 64 * (a * 2 ^ (42 - 6 * (i + 1)) + rV (i + 1 + 1) l)
    rw [rV_64 l (i + 1) (by omega), show 42 - 6 * i = (42 - 6 * (i + 1)) + 6 by omega, Nat.pow_add]
    generalize 2 ^ (42 - 6 * (i + 1)) = z
    show a * (z * 64) + 64 * rV (i + 1 + 1) l = 64 * (a * z + rV (i + 1 + 1) l)
    rw [← Nat.mul_assoc a z 64]
    omega
theorem r_lin (t a z r : Nat) : t * (z * 64) + a * z + r = r + z * (t * 64 + a) := by
  rw [Nat.mul_add, Nat.mul_comm a z, Nat.mul_left_comm t z 64]
  omega
theorem rE_lt {k : Nat} {l : List Nat} (hk : k ≤ 4) (hl : rG l) : rE k l < 2 ^ 63 := by
  have h := rV_lt l 0 (by have := hl.1; omega) hl.2
  have h8 := hl.1
  unfold rE
  show k * 4503599627370496 + l.length * 281474976710656 + rV 0 l < 9223372036854775808
  have : rV 0 l < 281474976710656 := h
  omega
theorem rE_48 {k : Nat} {l : List Nat} (hl : rG l) : rE k l / 2 ^ 48 = k * 16 + l.length := by
  have h : rV 0 l < 281474976710656 := rV_lt l 0 (by have := hl.1; omega) hl.2
  unfold rE
  show (k * 4503599627370496 + l.length * 281474976710656 + rV 0 l) / 281474976710656 = _
  omega
theorem rE_52 {k : Nat} {l : List Nat} (hl : rG l) : rE k l / 2 ^ 52 = k := by
  have h : rV 0 l < 281474976710656 := rV_lt l 0 (by have := hl.1; omega) hl.2
  have h8 := hl.1
  unfold rE
  show (k * 4503599627370496 + l.length * 281474976710656 + rV 0 l) / 4503599627370496 = _
  omega
/-- a row cut at one of its numbers -/
theorem rE_cut {k a : Nat} {p q : List Nat} (hl : rG (p ++ a :: q)) : ∃ t, t * 2 ^ (48 - 6 * p.length) = k * 2 ^ 52 + (p ++ a :: q).length * 2 ^ 48 + rV 0 p ∧ rE k (p ++ a :: q) = t * 2 ^ (48 - 6 * p.length) + a * 2 ^ (42 - 6 * p.length) + rV (p.length + 1) q ∧ rV (p.length + 1) q < 2 ^ (42 - 6 * p.length) ∧ 2 ^ (48 - 6 * p.length) = 2 ^ (42 - 6 * p.length) * 64 ∧ p.length < 8 := by
  have hlen : (p ++ a :: q).length = p.length + q.length + 1 := by simp; omega
  have h8 := hl.1
  have hd : 2 ^ (48 - 6 * p.length) ∣ k * 2 ^ 52 + (p ++ a :: q).length * 2 ^ 48 + rV 0 p := by
    refine Nat.dvd_add (Nat.dvd_add ?_ ?_) ?_
    · exact Nat.dvd_trans (Nat.pow_dvd_pow 2 (by omega)) (Nat.dvd_mul_left _ _)
    · exact Nat.dvd_trans (Nat.pow_dvd_pow 2 (by omega)) (Nat.dvd_mul_left _ _)
    · have := rV_dvd p 0 (by omega)
      rwa [Nat.zero_add] at this
  obtain ⟨t, ht⟩ := hd
  refine ⟨t, by rw [Nat.mul_comm, ← ht], ?_, ?_, ?_, by omega⟩
  · rw [Nat.mul_comm t, ← ht]
    unfold rE
    rw [rV_app, Nat.zero_add]
    show _ + (rV 0 p + (a * 2 ^ (42 - 6 * p.length) + rV (p.length + 1) q)) = _
    omega
  · have := rV_lt q (p.length + 1) (by omega) (fun x hx => hl.2 x (List.mem_append_right _ (List.mem_cons_of_mem _ hx)))
    rwa [show 48 - 6 * (p.length + 1) = 42 - 6 * p.length by omega] at this
  · rw [show 48 - 6 * p.length = (42 - 6 * p.length) + 6 by omega, Nat.pow_add]
theorem rE_at {k a : Nat} {p q : List Nat} (hl : rG (p ++ a :: q)) : rE k (p ++ a :: q) / 2 ^ (42 - 6 * p.length) % 64 = a := by
  obtain ⟨t, -, h2, h3, h4, -⟩ := rE_cut (k := k) hl
  have ha := hl.2 a (List.mem_append_right _ List.mem_cons_self)
  rw [h2, h4]
  have hz : 0 < 2 ^ (42 - 6 * p.length) := Nat.two_pow_pos _
  generalize 2 ^ (42 - 6 * p.length) = z at *
  rw [r_lin, Nat.add_mul_div_left _ _ hz, Nat.div_eq_of_lt h3]
  omega
theorem r_or {t z r : Nat} {m : Nat} (hz : z = 2 ^ m) (hr : r < z) : t * z ||| r = t * z + r := by
  subst hz
  rw [Nat.mul_comm, ← Nat.two_pow_add_eq_or_of_lt hr]
theorem rE_with {k a : Nat} {l : List Nat} (h8 : l.length < 8) (ha : a < 64) : (rE k l + 2 ^ 48) ||| (a * 2 ^ (42 - 6 * l.length)) = rE k (l ++ [a]) := by
  have hd : 2 ^ (48 - 6 * l.length) ∣ rE k l + 2 ^ 48 := by
    unfold rE
    refine Nat.dvd_add (Nat.dvd_add (Nat.dvd_add ?_ ?_) ?_) ?_
    · exact Nat.dvd_trans (Nat.pow_dvd_pow 2 (by omega)) (Nat.dvd_mul_left _ _)
    · exact Nat.dvd_trans (Nat.pow_dvd_pow 2 (by omega)) (Nat.dvd_mul_left _ _)
    · have := rV_dvd l 0 (by omega)
      rwa [Nat.zero_add] at this
    · exact Nat.pow_dvd_pow 2 (by omega)
  obtain ⟨t, ht⟩ := hd
  have e4 : 2 ^ (48 - 6 * l.length) = 2 ^ (42 - 6 * l.length) * 64 := by rw [show 48 - 6 * l.length = (42 - 6 * l.length) + 6 by omega, Nat.pow_add]
  have hlt : a * 2 ^ (42 - 6 * l.length) < 2 ^ (48 - 6 * l.length) := by
    rw [e4, Nat.mul_comm]
    exact Nat.mul_lt_mul_of_pos_left ha (Nat.two_pow_pos _)
  rw [ht, Nat.mul_comm, r_or rfl hlt, Nat.mul_comm, ← ht]
  unfold rE
  rw [rV_app, List.length_append, Nat.zero_add]
  show _ + a * 2 ^ (42 - 6 * l.length) = k * 2 ^ 52 + (l.length + 1) * 2 ^ 48 + (rV 0 l + (a * 2 ^ (42 - 6 * l.length) + 0))
  omega
theorem rE_wo {k a : Nat} {p q : List Nat} (hl : rG (p ++ a :: q)) : (rE k (p ++ a :: q) / 2 ^ (48 - 6 * p.length) * 2 ^ (48 - 6 * p.length) ||| rE k (p ++ a :: q) % 2 ^ (42 - 6 * p.length) * 64) - 2 ^ 48 = rE k (p ++ q) ∧ 2 ^ 48 ≤ (rE k (p ++ a :: q) / 2 ^ (48 - 6 * p.length) * 2 ^ (48 - 6 * p.length) ||| rE k (p ++ a :: q) % 2 ^ (42 - 6 * p.length) * 64) := by
  obtain ⟨t, h1, h2, h3, h4, h5⟩ := rE_cut (k := k) hl
  have ha := hl.2 a (List.mem_append_right _ List.mem_cons_self)
  have h8 := hl.1
  have hlen : (p ++ a :: q).length = p.length + q.length + 1 := by simp; omega
  have hz : 0 < 2 ^ (42 - 6 * p.length) := Nat.two_pow_pos _
  have e1 : rE k (p ++ a :: q) % 2 ^ (42 - 6 * p.length) = rV (p.length + 1) q := by
    rw [h2, h4]
    generalize 2 ^ (42 - 6 * p.length) = z at *
    rw [r_lin, Nat.add_mul_mod_self_left, Nat.mod_eq_of_lt h3]
  have e2 : rE k (p ++ a :: q) / 2 ^ (48 - 6 * p.length) = t := by
    have hlt : a * 2 ^ (42 - 6 * p.length) + rV (p.length + 1) q < 2 ^ (48 - 6 * p.length) := by
      rw [h4]
      have : a * 2 ^ (42 - 6 * p.length) ≤ 63 * 2 ^ (42 - 6 * p.length) := Nat.mul_le_mul_right _ (by omega)
      omega
    rw [h2, Nat.add_assoc, Nat.add_comm (t * _), Nat.mul_comm t, Nat.add_mul_div_left _ _ (Nat.two_pow_pos _), Nat.div_eq_of_lt hlt, Nat.zero_add]
  have e3 : rV (p.length + 1) q * 64 < 2 ^ (48 - 6 * p.length) := by rw [h4]; omega
  rw [e1, e2, r_or rfl e3, h1, hlen]
  have e5 : rV p.length q = 64 * rV (p.length + 1) q := rV_64 q p.length (by omega)
  refine ⟨?_, by show 281474976710656 ≤ k * 4503599627370496 + (p.length + q.length + 1) * 281474976710656 + rV 0 p + _; omega⟩
  unfold rE
  rw [rV_app, Nat.zero_add, e5, List.length_append]
  show k * 4503599627370496 + (p.length + q.length + 1) * 281474976710656 + rV 0 p + rV (p.length + 1) q * 64 - 281474976710656 = k * 4503599627370496 + (p.length + q.length) * 281474976710656 + (rV 0 p + 64 * rV (p.length + 1) q)
  omega
/-! longs -/
theorem j_tn {n : Nat} (h : n < 2 ^ 64) : (lN n).toBitVec.toNat = n := by
  show (BitVec.ofNat 64 n).toNat = n
  rw [BitVec.toNat_ofNat]
  exact Nat.mod_eq_of_lt h
theorem j_ext {x : Int64} {n : Nat} (h : n < 2 ^ 64) (e : x.toBitVec.toNat = n) : x = lN n := Int64.toBitVec_inj.mp (BitVec.eq_of_toNat_eq (e.trans (j_tn h).symm))
theorem j_shr {n s : Nat} (hn : n < 2 ^ 64) (hs : s < 64) : ((lN n).toUInt64 >>> UInt64.ofNat s).toInt64 = lN (n / 2 ^ s) := by
  refine j_ext (Nat.lt_of_le_of_lt (Nat.div_le_self _ _) hn) ?_
  show ((lN n).toUInt64 >>> UInt64.ofNat s).toNat = _
  rw [UInt64.toNat_shiftRight, Nat.shiftRight_eq_div_pow]
  have e1 : (UInt64.ofNat s).toNat % 64 = s := by
    rw [UInt64.toNat_ofNat']
    omega
  rw [e1]
  show (lN n).toBitVec.toNat / _ = _
  rw [j_tn hn]
theorem j_or {a b : Nat} (ha : a < 2 ^ 64) (hb : b < 2 ^ 64) : lN a ||| lN b = lN (a ||| b) := by
  refine j_ext (Nat.or_lt_two_pow ha hb) ?_
  show ((lN a).toBitVec ||| (lN b).toBitVec).toNat = _
  rw [BitVec.toNat_or, j_tn ha, j_tn hb]
theorem j_and {a b : Nat} (ha : a < 2 ^ 64) (hb : b < 2 ^ 64) : lN a &&& lN b = lN (a &&& b) := by
  refine j_ext (Nat.lt_of_le_of_lt Nat.and_le_left ha) ?_
  show ((lN a).toBitVec &&& (lN b).toBitVec).toNat = _
  rw [BitVec.toNat_and, j_tn ha, j_tn hb]
theorem j_shl {a s : Nat} {b : Int64} (hb : b.toBitVec.smod 64 = BitVec.ofNat 64 s) (hs : s < 64) (ha : a * 2 ^ s < 2 ^ 64) : lN a <<< b = lN (a * 2 ^ s) := by
  have ha' : a < 2 ^ 64 := Nat.lt_of_le_of_lt (Nat.le_mul_of_pos_right _ (Nat.two_pow_pos s)) ha
  refine j_ext ha ?_
  show ((lN a).toBitVec <<< (b.toBitVec.smod 64)).toNat = _
  rw [hb]
  show ((lN a).toBitVec <<< (BitVec.ofNat 64 s).toNat).toNat = _
  rw [BitVec.toNat_ofNat, Nat.mod_eq_of_lt (by omega : s < 2 ^ 64), BitVec.toNat_shiftLeft, j_tn ha', Nat.shiftLeft_eq, Nat.mod_eq_of_lt ha]
theorem j_eq64 {a b : Nat} (ha : a < 2 ^ 64) (hb : b < 2 ^ 64) : lN a = lN b ↔ a = b := by
  refine ⟨fun h => ?_, fun h => by rw [h]⟩
  have := congrArg (fun z => z.toBitVec.toNat) h
  simpa [j_tn ha, j_tn hb] using this
theorem r_s1 : ∀ i, i < 8 → (((42 : Int32) - (6 : Int32) * nI i).toInt64.toUInt64 &&& Int64.toUInt64 63) = UInt64.ofNat (42 - 6 * i) := by decide
theorem r_s2 : ∀ i, i < 8 → ((((42 : Int32) - (6 : Int32) * nI i).toInt64 &&& 63).toBitVec.smod 64) = BitVec.ofNat 64 (42 - 6 * i) := by decide
theorem r_s3 : ∀ i, i < 8 → ((((42 : Int32) - (6 : Int32) * nI i) + (6 : Int32)).toInt64.toUInt64 &&& Int64.toUInt64 63) = UInt64.ofNat (48 - 6 * i) := by decide
theorem r_s4 : ∀ i, i < 8 → (((((42 : Int32) - (6 : Int32) * nI i) + (6 : Int32)).toInt64 &&& 63).toBitVec.smod 64) = BitVec.ofNat 64 (48 - 6 * i) := by decide
theorem r_48 : ((48 : Int32).toInt64.toUInt64 &&& Int64.toUInt64 63) = UInt64.ofNat 48 := by decide
theorem r_52 : ((52 : Int32).toInt64.toUInt64 &&& Int64.toUInt64 63) = UInt64.ofNat 52 := by decide
theorem r_52l : (((52 : Int32).toInt64 &&& 63).toBitVec.smod 64) = BitVec.ofNat 64 52 := by decide
theorem r_6l : (((6 : Int32).toInt64 &&& 63).toBitVec.smod 64) = BitVec.ofNat 64 6 := by decide
theorem nx_mod (a m : Nat) : nI a &&& nI (2 ^ m - 1) = nI (a % 2 ^ m) := by rw [nx_and, Nat.and_two_pow_sub_one_eq_mod]
/-! the methods -/
section ROW
variable {σ : am_S} {d k k' : Nat} {l m : List Nat}
theorem r_empty {Q : Int64 → am_S → Prop} (hk : k ≤ 4) (H : Q (lN (rE k [])) σ) : am_K rj am_Lx IX7_empty (d + 1) [.int (nI k)] σ Q := by
  refine vX7_empty ?_
  rw [nI_l (by omega), j_shl (s := 52) r_52l (by decide) (by omega)]
  have e : rE k [] = k * 2 ^ 52 := by
    show k * 4503599627370496 + 0 * 281474976710656 + 0 = k * 4503599627370496
    omega
  rw [e] at H
  exact H
theorem r_kind {Q : Int32 → am_S → Prop} (hk : k ≤ 4) (hl : rG l) (H : Q (nI k) σ) : am_K ri am_Lx IX7_kind (d + 1) [.long (lN (rE k l))] σ Q := by
  refine vX7_kind ?_
  rw [r_52, j_shr (by have := rE_lt hk hl; omega) (by decide), rE_52 hl, lN_i]
  exact H
theorem r_size {Q : Int32 → am_S → Prop} (hk : k ≤ 4) (hl : rG l) (H : Q (nI l.length) σ) : am_K ri am_Lx IX7_size (d + 1) [.long (lN (rE k l))] σ Q := by
  refine vX7_size ?_
  have h8 := hl.1
  rw [r_48, j_shr (by have := rE_lt hk hl; omega) (by decide), rE_48 hl, lN_i]
  have e : nI (k * 16 + l.length) &&& (15 : Int32) = nI l.length := by
    show nI (k * 16 + l.length) &&& nI (2 ^ 4 - 1) = _
    rw [nx_mod]
    exact congrArg nI (by omega)
  rw [e]
  exact H
theorem r_at {Q : Int32 → am_S → Prop} {i : Nat} (hk : k ≤ 4) (hl : rG l) (hi : i < l.length) (H : Q (nI l[i]) σ) : am_K ri am_Lx IX7_at (d + 1) [.long (lN (rE k l)), .int (nI i)] σ Q := by
  refine vX7_at ?_
  have h8 := hl.1
  have hs : l = l.take i ++ l[i] :: l.drop (i + 1) := by rw [← List.drop_eq_getElem_cons hi, List.take_append_drop]
  have hlen : (l.take i).length = i := by rw [List.length_take]; omega
  have ha := rE_at (k := k) (p := l.take i) (a := l[i]) (q := l.drop (i + 1)) (by rw [← hs]; exact hl)
  rw [← hs, hlen] at ha
  rw [r_s1 i (by omega), j_shr (by have := rE_lt hk hl; omega) (by omega), lN_i]
  have e : nI (rE k l / 2 ^ (42 - 6 * i)) &&& (63 : Int32) = nI l[i] := by
    show nI (rE k l / 2 ^ (42 - 6 * i)) &&& nI (2 ^ 6 - 1) = _
    rw [nx_mod]
    exact congrArg nI ha
  rw [e]
  exact H
/-- the first number of an empty row is 0 -/
theorem r_at0 {Q : Int32 → am_S → Prop} (hk : k ≤ 4) (H : Q (nI 0) σ) : am_K ri am_Lx IX7_at (d + 1) [.long (lN (rE k [])), .int (nI 0)] σ Q := by
  refine vX7_at ?_
  have hl : rG [] := ⟨by decide, fun _ z => by cases z⟩
  rw [r_s1 0 (by omega), j_shr (by have := rE_lt hk hl; omega) (by omega), lN_i]
  have e : nI (rE k [] / 2 ^ (42 - 6 * 0)) &&& (63 : Int32) = nI 0 := by
    show nI ((k * 4503599627370496 + 0 * 281474976710656 + 0) / 4398046511104) &&& nI (2 ^ 6 - 1) = _
    rw [nx_mod]
    exact congrArg nI (by omega)
  rw [e]
  exact H
theorem r_with {Q : Int64 → am_S → Prop} {a : Nat} (hk : k ≤ 4) (hl : rG l) (h8 : l.length < 8) (ha : a < 64) (H : Q (lN (rE k (l ++ [a]))) σ) : am_K rj am_Lx IX7_with (d + 2) [.long (lN (rE k l)), .int (nI a)] σ Q := by
  have hb := rE_lt hk hl
  refine vX7_with (r_size (d := d) hk hl ⟨fun _ => ?_, fun z => absurd (nI_lt (a := l.length) (b := 8) h8 (by decide)) z⟩)
  have e42 : 2 ^ (42 - 6 * l.length) ≤ 2 ^ 42 := Nat.pow_le_pow_right (by decide) (by omega)
  have hsh : a * 2 ^ (42 - 6 * l.length) < 2 ^ 48 := by
    have : a * 2 ^ (42 - 6 * l.length) ≤ 63 * 2 ^ 42 := Nat.mul_le_mul (by omega) e42
    omega
  rw [nI_l (by omega), j_shl (r_s2 l.length (by omega)) (by omega) (by omega), show (281474976710656 : Int64) = lN (2 ^ 48) from rfl, lN_add, j_or (by omega) (by omega), rE_with h8 ha]
  exact H
theorem r_without {Q : Int64 → am_S → Prop} {a : Nat} {p q : List Nat} (hk : k ≤ 4) (hl : rG (p ++ a :: q)) (H : Q (lN (rE k (p ++ q))) σ) : am_K rj am_Lx IX7_without (d + 1) [.long (lN (rE k (p ++ a :: q))), .int (nI p.length)] σ Q := by
  have hb := rE_lt hk hl
  have h8 := hl.1
  have hlen : (p ++ a :: q).length = p.length + q.length + 1 := by simp; omega
  obtain ⟨w1, w2⟩ := rE_wo (k := k) hl
  refine vX7_without ?_
  have hp : p.length < 8 := by omega
  have hz : 0 < 2 ^ (42 - 6 * p.length) := Nat.two_pow_pos _
  have e42 : 2 ^ (42 - 6 * p.length) ≤ 2 ^ 42 := Nat.pow_le_pow_right (by decide) (by omega)
  have hm : rE k (p ++ a :: q) % 2 ^ (42 - 6 * p.length) < 2 ^ 42 := Nat.lt_of_lt_of_le (Nat.mod_lt _ hz) e42
  have hd : rE k (p ++ a :: q) / 2 ^ (48 - 6 * p.length) * 2 ^ (48 - 6 * p.length) ≤ rE k (p ++ a :: q) := Nat.div_mul_le_self _ _
  rw [r_s3 _ hp, j_shr (by omega) (by omega), j_shl (r_s4 _ hp) (by omega) (by omega), show (1 : Int64) = lN 1 from rfl, j_shl (r_s2 _ hp) (by omega) (by omega), Nat.one_mul, lN_sub (by omega), j_and (by omega) (by omega), Nat.and_two_pow_sub_one_eq_mod, j_shl (s := 6) r_6l (by decide) (by omega), show (2 : Nat) ^ 6 = 64 from rfl, j_or (by omega) (by omega), show (281474976710656 : Int64) = lN (2 ^ 48) from rfl, lN_sub w2, w1]
  exact H
end ROW
