/-! ===== Lambert's bound: the sides of a least solution of one row ===== -/
def vsub : List Nat → List Nat → List Nat
  | a :: x, b :: y => (a - b) :: vsub x y
  | _, _ => []
theorem vsub_len : ∀ {z h : List Nat}, vle h z → (vsub z h).length = z.length
  | [], [], _ => rfl
  | [], _ :: _, h => by cases h
  | _ :: _, [], h => by cases h
  | a :: x, b :: y, h => by
    unfold vsub
    rw [List.length_cons, List.length_cons, vsub_len h.2]
theorem vsub_le : ∀ {z h : List Nat}, vle h z → vle (vsub z h) z
  | [], [], _ => trivial
  | [], _ :: _, h => by cases h
  | _ :: _, [], h => by cases h
  | a :: x, b :: y, h => ⟨Nat.sub_le _ _, vsub_le h.2⟩
theorem vsub_sm : ∀ {z h : List Nat}, vle h z → sm (vsub z h) + sm h = sm z
  | [], [], _ => rfl
  | [], _ :: _, h => by cases h
  | _ :: _, [], h => by cases h
  | a :: x, b :: y, h => by
    have := vsub_sm h.2
    have h1 : b ≤ a := h.1
    simp only [vsub, sm]
    omega
theorem vsub_dot (w : Nat → Int) : ∀ {z h : List Nat} (j : Nat), vle h z → dot w j (vsub z h) = dot w j z - dot w j h
  | [], [], _, _ => by simp [vsub, dot]
  | [], _ :: _, _, h => by cases h
  | _ :: _, [], _, h => by cases h
  | a :: x, b :: y, j, h => by
    have := vsub_dot w (j + 1) h.2
    have h1 : b ≤ a := h.1
    simp only [vsub, dot]
    rw [this, Int.ofNat_sub h1, Int.mul_sub]
    omega
/-- one more of the j-th -/
def inc : List Nat → Nat → List Nat
  | [], _ => []
  | a :: x, 0 => (a + 1) :: x
  | a :: x, j + 1 => a :: inc x j
theorem inc_sm : ∀ {x : List Nat} {j : Nat}, j < x.length → sm (inc x j) = sm x + 1
  | [], _, h => by simp at h
  | a :: x, 0, _ => by simp only [inc, sm]; omega
  | a :: x, j + 1, h => by
    have := inc_sm (x := x) (j := j) (by simpa using h)
    simp only [inc, sm]
    omega
theorem inc_dot (w : Nat → Int) : ∀ {x : List Nat} {j i : Nat}, j < x.length → dot w i (inc x j) = dot w i x + w (i + j)
  | [], _, _, h => by simp at h
  | a :: x, 0, i, _ => by
    simp only [inc, dot, Nat.add_zero]
    rw [show ((a + 1 : Nat) : Int) = (a : Int) + 1 by omega, Int.mul_add]
    omega
  | a :: x, j + 1, i, h => by
    have := inc_dot w (x := x) (j := j) (i := i + 1) (by simpa using h)
    simp only [inc, dot]
    rw [this, show i + 1 + j = i + (j + 1) by omega]
    omega
theorem inc_le : ∀ {z x : List Nat} {j : Nat}, vle z x → z.getD j 0 < x.getD j 0 → vle (inc z j) x
  | [], [], _, _, h => by simp at h
  | [], _ :: _, _, h, _ => by cases h
  | _ :: _, [], _, h, _ => by cases h
  | a :: z, b :: x, 0, h, g => by
    have h1 : a < b := by simpa using g
    have h2 : a + 1 ≤ b := h1
    exact ⟨h2, h.2⟩
  | a :: z, b :: x, j + 1, h, g => ⟨h.1, inc_le h.2 (by simpa using g)⟩
theorem inc_ge : ∀ (z : List Nat) (j : Nat), vle z (inc z j)
  | [], _ => trivial
  | a :: z, 0 => ⟨Nat.le_succ _, vle_rfl z⟩
  | a :: z, j + 1 => ⟨Nat.le_refl _, inc_ge z j⟩
theorem inc_len : ∀ (z : List Nat) (j : Nat), (inc z j).length = z.length
  | [], _ => rfl
  | a :: z, 0 => rfl
  | a :: z, j + 1 => by simp [inc, inc_len z j]
/-- what the side with these weights gets -/
noncomputable def sd (P : Nat → Prop) : Nat → List Nat → Nat
  | _, [] => 0
  | j, v :: r => (if dc (P j) then v else 0) + sd P (j + 1) r
theorem inc_sd (P : Nat → Prop) : ∀ {x : List Nat} {j i : Nat}, j < x.length → sd P i (inc x j) = sd P i x + (if dc (P (i + j)) then 1 else 0)
  | [], _, _, h => by simp at h
  | a :: x, 0, i, _ => by
    simp only [inc, sd, Nat.add_zero]
    cases dc (P i) <;> simp <;> omega
  | a :: x, j + 1, i, h => by
    have := inc_sd P (x := x) (j := j) (i := i + 1) (by simpa using h)
    simp only [inc, sd]
    rw [this, show i + 1 + j = i + (j + 1) by omega]
    omega
theorem sd_zero (P : Nat → Prop) : ∀ (n j : Nat), sd P j (List.replicate n 0) = 0
  | 0, _ => rfl
  | n + 1, j => by
    rw [List.replicate_succ]
    simp only [sd, sd_zero P n (j + 1)]
    split <;> rfl
/-- while something is left, there is some of the sign that is wanted -/
theorem left_pos (w : Nat → Int) : ∀ {z x : List Nat} (i : Nat), vle z x → z ≠ x → (∀ j, j < x.length → w (i + j) ≠ 0) → 0 ≤ dot w i x - dot w i z → ∃ j, j < x.length ∧ 0 < w (i + j) ∧ z.getD j 0 < x.getD j 0
  | [], [], _, _, h, _, _ => absurd rfl h
  | [], _ :: _, _, h, _, _, _ => by cases h
  | _ :: _, [], _, h, _, _, _ => by cases h
  | a :: z, b :: x, i, h, hne, hw, hd => by
    have h1 : a ≤ b := h.1
    by_cases e : a < b ∧ 0 < w i
    · exact ⟨0, by simp, by simpa using e.2, by simpa using e.1⟩
    · by_cases e2 : z = x
      · exfalso
        subst e2
        have hab : a ≠ b := fun z => hne (by rw [z])
        have hlt : a < b := by omega
        have hw0 := hw 0 (by simp)
        rw [Nat.add_zero] at hw0
        have hneg : w i < 0 := by
          rcases Int.lt_trichotomy (w i) 0 with q | q | q
          · exact q
          · exact absurd q hw0
          · exact absurd ⟨hlt, q⟩ e
        simp only [dot] at hd
        have : w i * (b : Int) < w i * (a : Int) := Int.mul_lt_mul_of_neg_left (by omega) hneg
        omega
      · have hle : w i * (b : Int) ≤ w i * (a : Int) := by
          rcases Nat.lt_or_ge a b with q | q
          · have hneg : w i ≤ 0 := by
              rcases Int.lt_or_le 0 (w i) with r | r
              · exact absurd ⟨q, r⟩ e
              · exact r
            exact Int.mul_le_mul_of_nonpos_left hneg (by omega)
          · have : a = b := by omega
            rw [this]
            exact Int.le_refl _
        have hd2 : 0 ≤ dot w (i + 1) x - dot w (i + 1) z := by
          simp only [dot] at hd
          omega
        obtain ⟨j, j1, j2, j3⟩ := left_pos w (i + 1) h.2 e2 (fun j hj => by
          have := hw (j + 1) (by simp; omega)
          rw [show i + 1 + j = i + (j + 1) by omega]
          exact this) hd2
        exact ⟨j + 1, by simp; omega, by rw [show i + (j + 1) = i + 1 + j by omega]; exact j2, by simpa using j3⟩
theorem dot_neg (w : Nat → Int) : ∀ (x : List Nat) (i : Nat), dot (fun j => - w j) i x = - dot w i x
  | [], _ => by simp [dot]
  | a :: x, i => by
    simp only [dot, dot_neg w x (i + 1), Int.neg_mul]
    omega
/-- pigeons: different numbers from -(B - 1) to 0 -/
theorem pig {B : Nat} {l : List Int} (hn : l.Nodup) (hl : ∀ v ∈ l, -(B : Int) < v ∧ v ≤ 0) : l.length ≤ B := by
  have := nd_le (g := l) (l := (List.range B).map (fun (k : Nat) => -(k : Int))) hn (fun v hv => by
    obtain ⟨h1, h2⟩ := hl v hv
    refine List.mem_map.mpr ⟨(-v).toNat, List.mem_range.mpr (by omega), ?_⟩
    rw [Int.toNat_of_nonneg (by omega)]
    omega)
  simpa using this
theorem lambert {U S B : Nat} {A : Nat → Nat → Int} {x : List Nat} (hm : isMin 1 U S A x) (hw : ∀ j, j < U → A 0 j ≠ 0) (hB : ∀ j, j < U → -(B : Int) ≤ A 0 j) (hB1 : 1 ≤ B) : sd (fun j => 0 < A 0 j) 0 x ≤ B := by
  obtain ⟨⟨hxl, hxS, hx0, hxd⟩, hmin⟩ := hm
  have hdx : dot (A 0) 0 x = 0 := hxd 0 (by omega)
  have walk : ∀ (m : Nat) (z : List Nat) (H : List (List Nat)), sm z + m = sm x → vle z x → (∀ h ∈ H, vle h z ∧ h ≠ z) → (H.map (dot (A 0) 0)).Nodup → (∀ h ∈ H, -(B : Int) < dot (A 0) 0 h ∧ dot (A 0) 0 h ≤ 0) → H.length = sd (fun j => 0 < A 0 j) 0 z → -(B : Int) < dot (A 0) 0 z → sd (fun j => 0 < A 0 j) 0 x ≤ B := by
    intro m
    induction m with
    | zero =>
      intro z H h1 h2 h3 h4 h5 h6 h7
      have : z = x := vle_eq h2 (by omega)
      rw [← this, ← h6]
      have := pig (B := B) h4 (fun v hv => by
        obtain ⟨h, hh, e⟩ := List.mem_map.mp hv
        rw [← e]
        exact h5 h hh)
      simpa using this
    | succ m ih =>
      intro z H h1 h2 h3 h4 h5 h6 h7
      have hne : z ≠ x := fun e => by rw [e] at h1; omega
      have hzl := vle_len h2
      rcases Int.lt_or_le 0 (dot (A 0) 0 z) with hpos | hnp
      · -- a step on the other side
        obtain ⟨j, j1, j2, j3⟩ := left_pos (fun j => - A 0 j) 0 h2 hne (fun j hj => by rw [Nat.zero_add]; have := hw j (by omega); omega) (by rw [dot_neg, dot_neg, hdx]; omega)
        rw [Nat.zero_add] at j2
        have hjz : j < z.length := by omega
        have hd := inc_dot (A 0) (i := 0) hjz
        rw [Nat.zero_add] at hd
        have hs := inc_sd (fun j => 0 < A 0 j) (i := 0) hjz
        rw [Nat.zero_add, dc_f (p := 0 < A 0 j) (by omega)] at hs
        refine ih (inc z j) H (by rw [inc_sm hjz]; omega) (inc_le h2 j3) (fun h hh => ?_) h4 h5 (by rw [hs, h6]; rfl) ?_
        · obtain ⟨q1, q2⟩ := h3 h hh
          refine ⟨vle_trans q1 (inc_ge z j), fun e => ?_⟩
          have := vle_sm q1
          rw [e, inc_sm hjz] at this
          omega
        · rw [hd]
          have := hB j (by omega)
          omega
      · obtain ⟨j, j1, j2, j3⟩ := left_pos (A 0) 0 h2 hne (fun j hj => by rw [Nat.zero_add]; exact hw j (by omega)) (by rw [hdx]; omega)
        rw [Nat.zero_add] at j2
        have hjz : j < z.length := by omega
        have hd := inc_dot (A 0) (i := 0) hjz
        rw [Nat.zero_add] at hd
        have hs := inc_sd (fun j => 0 < A 0 j) (i := 0) hjz
        rw [Nat.zero_add, dc_iff.mpr j2, if_pos rfl] at hs
        refine ih (inc z j) (z :: H) (by rw [inc_sm hjz]; omega) (inc_le h2 j3) (fun h hh => ?_) ?_ (fun h hh => ?_) (by rw [hs, List.length_cons, h6]) ?_
        · rcases List.mem_cons.mp hh with e | hh
          · rw [e]
            refine ⟨inc_ge z j, fun e2 => ?_⟩
            have := inc_sm hjz
            rw [← e2] at this
            omega
          · obtain ⟨q1, q2⟩ := h3 h hh
            refine ⟨vle_trans q1 (inc_ge z j), fun e => ?_⟩
            have := vle_sm q1
            rw [e, inc_sm hjz] at this
            omega
        · rw [List.map_cons]
          refine List.nodup_cons.mpr ⟨fun hin => ?_, h4⟩
          obtain ⟨h, hh, e⟩ := List.mem_map.mp hin
          obtain ⟨q1, q2⟩ := h3 h hh
          have hsub := vsub_le q1
          have hsm := vsub_sm q1
          have hhz : sm h < sm z := by
            have := vle_sm q1
            rcases Nat.lt_or_ge (sm h) (sm z) with r | r
            · exact r
            · exact absurd (vle_eq q1 (by omega)) q2
          have hv := vsub_dot (A 0) 0 q1
          have hmz := hmin (vsub z h) ⟨by rw [vsub_len q1]; omega, by omega, by omega, fun r hr => by
            have : r = 0 := by omega
            subst this
            rw [hv]
            omega⟩ (vle_trans hsub h2)
          rw [hmz] at hsm
          omega
        · rcases List.mem_cons.mp hh with e | hh
          · rw [e]; exact ⟨h7, hnp⟩
          · exact h5 h hh
        · rw [hd]
          omega
  have h0 : vle (List.replicate U 0) x := by
    refine (vle_iff (by simp [hxl])).mpr fun j _ => ?_
    simp [List.getD_eq_getElem?_getD, List.getElem?_replicate]
    split <;> simp
  have hz : sm (List.replicate U 0) = 0 := by
    have : ∀ n, sm (List.replicate n 0) = 0 := fun n => by
      induction n with
      | zero => rfl
      | succ n ih => rw [List.replicate_succ]; simp [sm, ih]
    exact this U
  refine walk (sm x) (List.replicate U 0) [] (by omega) h0 (by simp) (by simp) (by simp) (by rw [sd_zero]; rfl) ?_
  rw [dot_zero]
  omega
