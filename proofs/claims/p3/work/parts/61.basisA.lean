/-! ===== class Basis, object 28 ===== -/
def bs28 (R U : Nat) (A : Nat → Nat → Int) (σ : am_S) : Prop := gS σ 28 0 = nI 6 ∧ gS σ 28 1 = nI 100 ∧ gS σ 28 8 = nI R ∧ gS σ 28 9 = nI U ∧ R ≤ 3 ∧ U ≤ 6 ∧ ∀ r, r < R → ∀ j, j < U → (gA σ 29 (6 * r + j)).toInt = A r j ∧ -9 ≤ A r j ∧ A r j ≤ 9
def cb28 (R U : Nat) (A : Nat → Nat → Int) (σ : am_S) : Prop := ∀ r, r < R → ∀ k, k ≤ U → (gA σ 30 (7 * r + k)).toInt = lo (A r) k (U - k) ∧ (gA σ 31 (7 * r + k)).toInt = hi (A r) k (U - k)
def cs28 (R : Nat) (A : Nat → Nat → Int) (X : List Nat) (σ : am_S) : Prop := (∀ j, j < 6 → gA σ 33 j = nI (X.getD j 0)) ∧ ∀ r, r < R → (gA σ 32 r).toInt = dot (A r) 0 X
def fs28 (U : Nat) (F : List (List Nat)) (σ : am_S) : Prop := gS σ 28 11 = nI F.length ∧ ∀ i, i < F.length → i < 100 → ∀ j, j < U → gA σ 34 (6 * i + j) = nI ((F.getD i []).getD j 0)
section B28
variable {σ τ : am_S} {R U S : Nat} {A : Nat → Nat → Int} {X P : List Nat} {F : List (List Nat)}
theorem bs28_fr (h : bs28 R U A σ) (f : fr [(28, 10), (28, 11)] [30, 31, 32, 33, 34] [] [] σ τ) : bs28 R U A τ := by
  obtain ⟨h0, h1, h2, h3, h4, h5, h6⟩ := h
  refine ⟨by rw [f.1 28 0 (by decide)]; exact h0, by rw [f.1 28 1 (by decide)]; exact h1, by rw [f.1 28 8 (by decide)]; exact h2, by rw [f.1 28 9 (by decide)]; exact h3, h4, h5, fun r a j b => ?_⟩
  rw [f.2.1 29 (by decide)]
  exact h6 r a j b
theorem cb28_fr (h : cb28 R U A σ) (f : fr [(28, 11)] [32, 33, 34] [] [] σ τ) : cb28 R U A τ := by
  intro r a k b
  rw [f.2.1 30 (by decide), f.2.1 31 (by decide)]
  exact h r a k b
theorem fs28_fr (h : fs28 U F σ) (f : fr [] [32, 33] [] [] σ τ) : fs28 U F τ := by
  refine ⟨by rw [f.1 28 11 (by decide)]; exact h.1, fun i a b j c => ?_⟩
  rw [f.2.1 34 (by decide)]
  exact h.2 i a b j c
theorem cs28_fr (h : cs28 R A X σ) (f : fr [(28, 11)] [34] [] [] σ τ) : cs28 R A X τ := by
  refine ⟨fun j a => ?_, fun r a => ?_⟩
  · rw [f.2.1 33 (by decide)]
    exact h.1 j a
  · rw [f.2.1 32 (by decide)]
    exact h.2 r a
theorem cs28_0 (h : cs28 R A (P ++ [0]) σ) : cs28 R A P σ := by
  refine ⟨fun j a => ?_, fun r a => ?_⟩
  · rw [h.1 j a]
    congr 1
    simp only [List.getD_eq_getElem?_getD]
    by_cases hj : j < P.length
    · rw [List.getElem?_append_left hj]
    · rw [List.getElem?_append_right (by omega), List.getElem?_eq_none (by omega : P.length ≤ j)]
      rcases Nat.eq_zero_or_pos (j - P.length) with e | e
      · rw [e]; rfl
      · rw [List.getElem?_eq_none (by simp; omega)]
  · rw [h.2 r a, dot_snoc]
    simp
theorem cs28_1 (h : cs28 R A P σ) : cs28 R A (P ++ [0]) σ := by
  refine ⟨fun j a => ?_, fun r a => ?_⟩
  · rw [h.1 j a]
    congr 1
    simp only [List.getD_eq_getElem?_getD]
    by_cases hj : j < P.length
    · rw [List.getElem?_append_left hj]
    · rw [List.getElem?_append_right (by omega), List.getElem?_eq_none (by omega : P.length ≤ j)]
      rcases Nat.eq_zero_or_pos (j - P.length) with e | e
      · rw [e]; rfl
      · rw [List.getElem?_eq_none (by simp; omega)]
  · rw [h.2 r a, dot_snoc]
    simp
theorem dot28_bd (hb : bs28 R U A σ) (x : List Nat) (hx : x.length ≤ U) (r : Nat) (hr : r < R) : -(9 * (sm x : Int)) ≤ dot (A r) 0 x ∧ dot (A r) 0 x ≤ 9 * sm x := by
  refine dot_bd (by decide) x 0 fun i _ b => ?_
  exact (hb.2.2.2.2.2.2 r hr i (by omega)).2
variable {d : Nat}
theorem x_chl28 {Q : Unit → am_S → Prop} {k c c' : Nat} {by_ : Int32} (σ0 : am_S) (hk : P.length = k) (hkU : k < U) (hv : by_.toInt = (c' : Int) - c) (hs : sm P + c ≤ 16) (hs' : sm P + c' ≤ 16) (H : ∀ σ', fr [] [32, 33] [] [] σ0 σ' → cs28 R A (P ++ [c']) σ' → Q () σ') : ∀ m r σ, r + m = R → bs28 R U A σ → (∀ q, q < r → (gA σ 32 q).toInt = dot (A q) 0 (P ++ [c'])) → (∀ q, r ≤ q → q < R → (gA σ 32 q).toInt = dot (A q) 0 (P ++ [c])) → (∀ j, j < 6 → gA σ 33 j = nI ((P ++ [c']).getD j 0)) → fr [] [32, 33] [] [] σ0 σ → am_X ru am_Lx IX0_change (d + 1) 12 [some (.ref 28), some (.int (nI k)), some (.int by_), some (.int (nI r))] [] σ Q := by
  intro m
  induction m with
  | zero =>
    intro r σ hr hb h1 h2 h3 hf
    have e : r = R := by omega
    refine vX0_change_28_12 (pk_le R r (fun _ => H σ hf ⟨h3, fun q hq => h1 q (by omega)⟩) (fun h => by omega) hb.2.2.1 rfl (by have := hb.2.2.2.2.1; omega) (by have := hb.2.2.2.2.1; omega))
  | succ m ih =>
    intro r σ hr hb h1 h2 h3 hf
    have hR := hb.2.2.2.2.1
    have hU := hb.2.2.2.2.2.1
    have hn := hb.2.2.2.2.2.2 r (by omega) k hkU
    have e1 : nI r * gS σ 28 0 + nI k = nI (6 * r + k) := by rw [hb.1, pk_mul, nI_add, Nat.mul_comm]
    refine vX0_change_28_12 (pk_le R r (fun h => by omega) (fun _ => ⟨pk_in r 3 (by omega), pk_in (6 * r + k) 18 (by omega) e1, pk_in r 3 (by omega), ?_⟩) hb.2.2.1 rfl (by omega) (by omega))
    rw [e1, nI_clamp (n := r) (by omega), nI_clamp (n := 6 * r + k) (by omega), nI_1]
    have b1 := dot28_bd hb (P ++ [c]) (by simp; omega) r (by omega)
    have b2 := dot28_bd hb (P ++ [c']) (by simp; omega) r (by omega)
    simp only [sm_app, sm, Nat.add_zero] at b1 b2
    have ei : ((c' : Int) - c) * A r k = dot (A r) 0 (P ++ [c']) - dot (A r) 0 (P ++ [c]) := by
      rw [dot_snoc, dot_snoc, hk, Int.sub_mul, Int.mul_comm (c' : Int), Int.mul_comm (c : Int)]
      omega
    refine ih (r + 1) _ (by omega) (bs28_fr hb (fr_wA fr_rfl (by decide))) (fun q hq => ?_) (fun q hq1 hq2 => ?_) (fun j hj => ?_) (fr_wA hf (by decide))
    · by_cases e : q = r
      · subst e
        rw [wA_at, t_add (h2 q (Nat.le_refl _) (by omega)) (t_mul hv hn.1 (by rw [ei]; omega)) (by rw [ei]; omega), ei]
        omega
      · rw [wA_ne (fun z => e z.2)]
        exact h1 q (by omega)
    · rw [wA_ne (fun z => by omega)]
      exact h2 q (by omega) hq2
    · rw [wA_arr (by decide)]
      exact h3 j hj
theorem x_change28 {Q : Unit → am_S → Prop} {k c c' : Nat} {by_ : Int32} (hb : bs28 R U A σ) (hc : cs28 R A (P ++ [c]) σ) (hk : P.length = k) (hkU : k < U) (hv : by_.toInt = (c' : Int) - c) (hs : sm P + c ≤ 16) (hs' : sm P + c' ≤ 16) (H : ∀ σ', fr [] [32, 33] [] [] σ σ' → cs28 R A (P ++ [c']) σ' → Q () σ') : am_K ru am_Lx IX0_change (d + 1) [.ref 28, .int (nI k), .int by_] σ Q := by
  have hU := hb.2.2.2.2.2.1
  refine vX0_change_28 ⟨pk_in k 6 (by omega), pk_in k 6 (by omega), ?_⟩
  rw [nI_clamp (by omega)]
  refine x_chl28 σ hk hkU hv hs hs' H R 0 _ (by omega) (bs28_fr hb (fr_wA fr_rfl (by decide))) (fun q hq => absurd hq (Nat.not_lt_zero _)) (fun q _ hq => ?_) (fun j hj => ?_) (fr_wA fr_rfl (by decide))
  · rw [wA_arr (by decide)]
    exact hc.2 q hq
  · by_cases e : j = k
    · subst e
      rw [wA_at, hc.1 j hj]
      have e1 : ∀ z : Nat, (P ++ [z]).getD j 0 = z := fun z => by
        simp [List.getD_eq_getElem?_getD, List.getElem?_append_right, hk]
      rw [e1, e1]
      apply nI_ofT
      rw [t_add (nI_toInt (by omega)) hv (by omega)]
      omega
    · rw [wA_ne (fun z => e z.2), hc.1 j hj]
      congr 1
      simp only [List.getD_eq_getElem?_getD]
      by_cases hj2 : j < P.length
      · rw [List.getElem?_append_left hj2, List.getElem?_append_left hj2]
      · rw [List.getElem?_append_right (by omega), List.getElem?_append_right (by omega), List.getElem?_eq_none (by simp; omega), List.getElem?_eq_none (by simp; omega)]
theorem x_canEnd28 {Q : Int32 → am_S → Prop} {k l : Nat} (hb : bs28 R U A σ) (hcb : cb28 R U A σ) (hc : cs28 R A X σ) (hk : k ≤ U) (hl : l ≤ 16) (hX : X.length ≤ U) (hX2 : sm X ≤ 16)
    (h1 : (∀ r, r < R → dot (A r) 0 X + (l : Int) * lo (A r) k (U - k) ≤ 0 ∧ 0 ≤ dot (A r) 0 X + (l : Int) * hi (A r) k (U - k)) → Q 1 σ)
    (h0 : ¬ (∀ r, r < R → dot (A r) 0 X + (l : Int) * lo (A r) k (U - k) ≤ 0 ∧ 0 ≤ dot (A r) 0 X + (l : Int) * hi (A r) k (U - k)) → Q 0 σ) : am_K ri am_Lx IX0_canEnd (d + 1) [.ref 28, .int (nI k), .int (nI l)] σ Q := by
  have hR := hb.2.2.2.2.1
  have hU := hb.2.2.2.2.2.1
  have no : ∀ n : Int32, ¬ (∀ r, r < R → dot (A r) 0 X + (l : Int) * lo (A r) k (U - k) ≤ 0 ∧ 0 ≤ dot (A r) 0 X + (l : Int) * hi (A r) k (U - k)) → am_X ri am_Lx IX0_canEnd (d + 1) 5 [some (.ref 28), some (.int (nI k)), some (.int (nI l)), some (.int (0 : Int32)), some (.int n), none] [] σ Q :=
    fun n h => vX0_canEnd_28_5 ⟨fun _ => ⟨Or.inl rfl, h0 h⟩, fun z => absurd rfl z⟩
  have go : ∀ m r, r + m = R → (∀ q, q < r → dot (A q) 0 X + (l : Int) * lo (A q) k (U - k) ≤ 0 ∧ 0 ≤ dot (A q) 0 X + (l : Int) * hi (A q) k (U - k)) → am_X ri am_Lx IX0_canEnd (d + 1) 5 [some (.ref 28), some (.int (nI k)), some (.int (nI l)), some (.int (1 : Int32)), some (.int (nI r)), none] [] σ Q := by
    intro m
    induction m with
    | zero =>
      intro r hr ha
      refine vX0_canEnd_28_5 ⟨fun z => absurd z (by decide), fun _ => pk_le R r (fun _ => ⟨Or.inr rfl, h1 fun q hq => ha q (by omega)⟩) (fun h => by omega) hb.2.2.1 rfl (by omega) (by omega)⟩
    | succ m ih =>
      intro r hr ha
      have e1 : nI r * (gS σ 28 0 + 1) + nI k = nI (7 * r + k) := by rw [hb.1, nI_1, pk_mul, nI_add, Nat.mul_comm]
      have hin : vp_in (nI r * (gS σ 28 0 + 1) + nI k) 21 := pk_in (7 * r + k) 21 (by omega) e1
      have b1 := dot28_bd hb X hX r (by omega)
      have b2 := lo_bd (a := A r) (B := 9) (by decide) (U - k) k fun i _ b => (hb.2.2.2.2.2.2 r (by omega) i (by omega)).2
      have b3 := lo_le (A r) (U - k) k
      have b4 := hi_ge (A r) (U - k) k
      have c1 := hcb r (by omega) k hk
      have c2 := hc.2 r (by omega)
      have hl0 : (0 : Int) ≤ (l : Int) := Int.natCast_nonneg l
      have m1 := Int.mul_le_mul_of_nonneg_left b2.1 hl0
      have m2 := Int.mul_le_mul_of_nonneg_left b3 hl0
      have m3 := Int.mul_le_mul_of_nonneg_left b2.2 hl0
      have m4 := Int.mul_le_mul_of_nonneg_left b4 hl0
      have v1 : (gA σ 32 r + nI l * gA σ 30 (7 * r + k)).toInt = dot (A r) 0 X + (l : Int) * lo (A r) k (U - k) := t_add c2 (t_mul (nI_toInt (by omega)) c1.1 (by omega)) (by omega)
      have v2 : (gA σ 32 r + nI l * gA σ 31 (7 * r + k)).toInt = dot (A r) 0 X + (l : Int) * hi (A r) k (U - k) := t_add c2 (t_mul (nI_toInt (by omega)) c1.2 (by omega)) (by omega)
      refine vX0_canEnd_28_5 ⟨fun z => absurd z (by decide), fun _ => pk_le R r (fun h => by omega) (fun _ => ⟨pk_in r 3 (by omega), hin, ?_⟩) hb.2.2.1 rfl (by omega) (by omega)⟩
      rw [e1, nI_clamp (n := r) (by omega), nI_clamp (n := 7 * r + k) (by omega)]
      refine ⟨fun z => no _ fun c => ?_, fun z => ⟨pk_in r 3 (by omega), by rw [← e1]; exact hin, fun z2 => no _ fun c => ?_, fun z2 => ?_⟩⟩
      · rw [i_lt, v1, l_0] at z
        have := (c r (by omega)).1
        omega
      · rw [i_lt, v2, l_0] at z2
        have := (c r (by omega)).2
        omega
      · rw [i_lt, v1, l_0] at z
        rw [i_lt, v2, l_0] at z2
        rw [nI_1]
        refine ih (r + 1) (by omega) fun q hq => ?_
        by_cases e : q = r
        · subst e
          omega
        · exact ha q (by omega)
  exact vX0_canEnd_28 (go R 0 (by omega) fun q hq => absurd hq (Nat.not_lt_zero _))
theorem x_isAboveOne28 {Q : Int32 → am_S → Prop} (hb : bs28 R U A σ) (hc : cs28 R A X σ) (hf : fs28 U F σ) (hF : F.length ≤ 100) (hX : sm X ≤ 16) (hF2 : ∀ y ∈ F, sm y ≤ 16)
    (h1 : (∃ y ∈ F, ∀ j, j < U → y.getD j 0 ≤ X.getD j 0) → Q 1 σ) (h0 : ¬ (∃ y ∈ F, ∀ j, j < U → y.getD j 0 ≤ X.getD j 0) → Q 0 σ) : am_K ri am_Lx IX0_isAboveOne (d + 1) [.ref 28] σ Q := by
  have hU := hb.2.2.2.2.2.1
  have big : ∀ (x : List Nat) (j : Nat), x.getD j 0 ≤ sm x := by
    intro x
    induction x with
    | nil => intro j; simp
    | cons a r ih =>
      intro j
      cases j with
      | zero => show a ≤ a + sm r; omega
      | succ j => have := ih j; show r.getD j 0 ≤ a + sm r; omega
  have inn : ∀ i, i < F.length → ((am_X ri am_Lx IX0_isAboveOne (d + 1) 4 [some (.ref 28), some (.int (0 : Int32)), some (.int (nI (i + 1))), none] [] σ Q)) → ∀ m k, k + m = U → (∀ j, j < k → (F.getD i []).getD j 0 ≤ X.getD j 0) → am_X ri am_Lx IX0_isAboveOne (d + 1) 28 [some (.ref 28), some (.int (1 : Int32)), some (.int (nI i)), some (.int (nI k))] [] σ Q := by
    intro i hi hno m
    have hmem : F.getD i [] ∈ F := by
      rw [List.getD_eq_getElem?_getD, List.getElem?_eq_getElem hi]
      exact List.getElem_mem hi
    induction m with
    | zero =>
      intro k hk ha
      refine vX0_isAboveOne_28_28 ⟨fun z => absurd z (by decide), fun _ => pk_le U k (fun _ => ?_) (fun h => by omega) hb.2.2.2.1 rfl (by omega) (by omega)⟩
      exact vX0_isAboveOne_28_4 ⟨fun _ => ⟨Or.inr rfl, h1 ⟨_, hmem, fun j hj => ha j (by omega)⟩⟩, fun z => absurd z (by decide)⟩
    | succ m ih =>
      intro k hk ha
      have e1 : nI i * gS σ 28 0 + nI k = nI (6 * i + k) := by rw [hb.1, pk_mul, nI_add, Nat.mul_comm]
      refine vX0_isAboveOne_28_28 ⟨fun z => absurd z (by decide), fun _ => pk_le U k (fun h => by omega) (fun _ => ⟨pk_in (6 * i + k) 600 (by omega) e1, pk_in k 6 (by omega), ?_⟩) hb.2.2.2.1 rfl (by omega) (by omega)⟩
      rw [e1, nI_clamp (n := k) (by omega), nI_clamp (n := 6 * i + k) (by omega), hc.1 k (by omega), hf.2 i hi (by omega) k (by omega)]
      have g1 := big X k
      have g2 := big (F.getD i []) k
      have g3 := hF2 _ hmem
      refine pk_lt (X.getD k 0) ((F.getD i []).getD k 0) (fun h => ?_) (fun h => ?_)
      · exact vX0_isAboveOne_28_28 ⟨fun _ => by rw [nI_1]; exact hno, fun z => absurd rfl z⟩
      · rw [nI_1]
        refine ih (k + 1) (by omega) fun j hj => ?_
        by_cases e : j = k
        · subst e
          exact h
        · exact ha j (by omega)
  have out : ∀ m i, i + m = F.length → (∀ q, q < i → ¬ ∀ j, j < U → (F.getD q []).getD j 0 ≤ X.getD j 0) → am_X ri am_Lx IX0_isAboveOne (d + 1) 4 [some (.ref 28), some (.int (0 : Int32)), some (.int (nI i)), none] [] σ Q := by
    intro m
    induction m with
    | zero =>
      intro i hi ha
      refine vX0_isAboveOne_28_4 ⟨fun z => absurd rfl z, fun _ => pk_le F.length i (fun _ => ⟨Or.inl rfl, h0 ?_⟩) (fun h => by omega) hf.1 rfl (by omega) (by omega)⟩
      rintro ⟨y, hy, hy2⟩
      obtain ⟨q, hq, e⟩ := List.getElem_of_mem hy
      refine ha q (by omega) ?_
      rw [List.getD_eq_getElem?_getD, List.getElem?_eq_getElem hq]
      simpa [e] using hy2
    | succ m ih =>
      intro i hi ha
      by_cases hy : ∀ j, j < U → (F.getD i []).getD j 0 ≤ X.getD j 0
      · -- above: the walk of the row finds so, whatever would come behind it
        refine vX0_isAboveOne_28_4 ⟨fun z => absurd rfl z, fun _ => pk_le F.length i (fun h => by omega) (fun _ => pk_le 100 i (fun h => by omega) (fun _ => ?_) hb.2.1 rfl (by omega) (by omega)) hf.1 rfl (by omega) (by omega)⟩
        have yes : ∀ m k, k + m = U → am_X ri am_Lx IX0_isAboveOne (d + 1) 28 [some (.ref 28), some (.int (1 : Int32)), some (.int (nI i)), some (.int (nI k))] [] σ Q := by
          have hmem : F.getD i [] ∈ F := by
            rw [List.getD_eq_getElem?_getD, List.getElem?_eq_getElem (by omega : i < F.length)]
            exact List.getElem_mem (by omega : i < F.length)
          intro m
          induction m with
          | zero =>
            intro k hk
            refine vX0_isAboveOne_28_28 ⟨fun z => absurd z (by decide), fun _ => pk_le U k (fun _ => ?_) (fun h => by omega) hb.2.2.2.1 rfl (by omega) (by omega)⟩
            exact vX0_isAboveOne_28_4 ⟨fun _ => ⟨Or.inr rfl, h1 ⟨_, hmem, hy⟩⟩, fun z => absurd z (by decide)⟩
          | succ m ih2 =>
            intro k hk
            have e1 : nI i * gS σ 28 0 + nI k = nI (6 * i + k) := by rw [hb.1, pk_mul, nI_add, Nat.mul_comm]
            refine vX0_isAboveOne_28_28 ⟨fun z => absurd z (by decide), fun _ => pk_le U k (fun h => by omega) (fun _ => ⟨pk_in (6 * i + k) 600 (by omega) e1, pk_in k 6 (by omega), ?_⟩) hb.2.2.2.1 rfl (by omega) (by omega)⟩
            rw [e1, nI_clamp (n := k) (by omega), nI_clamp (n := 6 * i + k) (by omega), hc.1 k (by omega), hf.2 i (by omega) (by omega) k (by omega)]
            have g1 := big X k
            have g2 := big (F.getD i []) k
            have g3 := hF2 _ hmem
            have g4 := hy k (by omega)
            refine pk_lt (X.getD k 0) ((F.getD i []).getD k 0) (fun h => by omega) (fun _ => ?_)
            rw [nI_1]
            exact ih2 (k + 1) (by omega)
        exact yes U 0 (by omega)
      · refine vX0_isAboveOne_28_4 ⟨fun z => absurd rfl z, fun _ => pk_le F.length i (fun h => by omega) (fun _ => pk_le 100 i (fun h => by omega) (fun _ => ?_) hb.2.1 rfl (by omega) (by omega)) hf.1 rfl (by omega) (by omega)⟩
        refine inn i (by omega) (ih (i + 1) (by omega) fun q hq => ?_) U 0 (by omega) fun j hj => absurd hj (Nat.not_lt_zero _)
        by_cases e : q = i
        · subst e
          exact hy
        · exact ha q (by omega)
  exact vX0_isAboveOne_28 (out F.length 0 (by omega) fun q hq => absurd hq (Nat.not_lt_zero _))
theorem x_keep28 {Q : Unit → am_S → Prop} (hb : bs28 R U A σ) (hc : cs28 R A X σ) (hf : fs28 U F σ) (hF : F.length ≤ 100) (h : ∀ σ', fr [(28, 11)] [34] [] [] σ σ' → fs28 U (F ++ [X]) σ' → Q () σ') : am_K ru am_Lx IX0_keep (d + 1) [.ref 28] σ Q := by
  have hU := hb.2.2.2.2.2.1
  have old : ∀ i, i < F.length → (F ++ [X]).getD i [] = F.getD i [] := fun i hi => by
    simp only [List.getD_eq_getElem?_getD]
    rw [List.getElem?_append_left hi]
  have new : (F ++ [X]).getD F.length [] = X := by
    simp only [List.getD_eq_getElem?_getD]
    rw [List.getElem?_append_right (Nat.le_refl _)]
    simp
  have len : (F ++ [X]).length = F.length + 1 := by simp
  refine vX0_keep_28 (pk_le 100 F.length (fun hm => h _ (fr_wS fr_rfl (by decide)) ⟨?_, fun i a b j c => ?_⟩) (fun hm => ?_) hb.2.1 hf.1 (by omega) (by omega))
  · rw [wS_at, hf.1, nI_1, len]
  · rw [len] at a
    show gA σ 34 (6 * i + j) = _
    rw [old i (by omega)]
    exact hf.2 i (by omega) b j c
  · have e1 : gS σ 28 11 * gS σ 28 0 = nI (6 * F.length) := by rw [hf.1, hb.1, pk_mul, Nat.mul_comm]
    have e0 : ((0 : Int32)).toNatClampNeg = 0 := rfl
    refine ⟨by decide, by rw [e1]; exact nI_pos (by omega), by rw [hb.2.2.2.1]; exact nI_pos (by omega), ?_, ?_, ?_⟩
    · rw [hb.2.2.2.1, nI_clamp (by omega), e0]
      omega
    · rw [e1, hb.2.2.2.1, nI_clamp (by omega), nI_clamp (by omega)]
      omega
    · refine h _ (fr_wS (fr_wAf fr_rfl (by decide)) (by decide)) ⟨?_, fun i a b j c => ?_⟩
      · rw [wS_at, hf.1, nI_1, len]
      · rw [len] at a
        rw [e1, hb.2.2.2.1, nI_clamp (n := U) (by omega), nI_clamp (n := 6 * F.length) (by omega), e0]
        show gA (wAf σ 34 _) 34 _ = _
        rw [wAf_at]
        by_cases e : i = F.length
        · subst e
          rw [pk_cpy_in (by omega) (by omega), new, show 0 + (6 * F.length + j - 6 * F.length) = j by omega]
          exact hc.1 j (by omega)
        · rw [pk_cpy_out (by omega), old i (by omega)]
          exact hf.2 i (by omega) b j c
end B28
