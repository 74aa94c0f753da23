/-! ===== the String constants ===== -/
def ixF (c : Int32) : List Int32 → Nat → Int32
  | [], _ => -1
  | b :: l, k => if b = c then nI k else ixF c l (k + 1)
theorem str_len {σ : am_S} {d k : Nat} (hk : k < 3) : am_Ctr am_Lx IJ0_length_8abf5 (d + 8) [.ref (am_sb + k)] σ (some (.int (nI (am_tlen.getD k 0)))) σ := sorry
theorem str_char {σ : am_S} {d k j : Nat} (hk : k < 3) (hj : j < am_tlen.getD k 0) : am_Ctr am_Lx IJ0_charAt_5068e (d + 8) [.ref (am_sb + k), .int (nI j)] σ (some (.int ((am_tbyt.getD k []).getD j 0))) σ := sorry
theorem str_ix {σ : am_S} {d k : Nat} {c : Int32} (hk : k < 3) : am_Ctr am_Lx IJ0_indexOf_0f7a4 (d + 8) [.ref (am_sb + k), .int c] σ (some (.int (ixF c (am_tbyt.getD k []) 0))) σ := sorry
