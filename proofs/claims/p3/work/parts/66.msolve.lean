/-! ===== the reference's solve ===== -/
def ms (R U : Nat) (A : Nat → Nat → Int) (σ : am_S) : Prop := gS σ 0 29 = nI R ∧ gS σ 0 30 = nI U ∧ R ≤ 3 ∧ 1 ≤ U ∧ U ≤ 6 ∧ ∀ r, r < R → ∀ j, j < U → (gA σ 18 (6 * r + j)).toInt = A r j ∧ -9 ≤ A r j ∧ A r j ≤ 9
def mt (X : List Nat) (σ : am_S) : Prop := ∀ j, j < X.length → gA σ 20 j = nI (X.getD j 0)
def mf (U : Nat) (F : List (List Nat)) (σ : am_S) : Prop := gS σ 0 32 = nI F.length ∧ F.length ≤ 100 ∧ ∀ i, i < F.length → ∀ j, j < U → gA σ 19 (6 * i + j) = nI ((F.getD i []).getD j 0)
theorem big_sm : ∀ (x : List Nat) (j : Nat), x.getD j 0 ≤ sm x := by
  intro x
  induction x with
  | nil => intro j; simp
  | cons a r ih =>
    intro j
    cases j with
    | zero => show a ≤ a + sm r; omega
    | succ j => have := ih j; show r.getD j 0 ≤ a + sm r; omega
theorem getD_last {P : List Nat} {c : Nat} : (P ++ [c]).getD P.length 0 = c := by
  simp [List.getD_eq_getElem?_getD]
theorem getD_left {P r : List Nat} {j : Nat} (h : j < P.length) : (P ++ r).getD j 0 = P.getD j 0 := by
  simp only [List.getD_eq_getElem?_getD]
  rw [List.getElem?_append_left h]
theorem dot_take (a : Nat → Int) (x : List Nat) (k : Nat) (h : k < x.length) : dot a 0 (x.take (k + 1)) = dot a 0 (x.take k) + a k * x.getD k 0 := by
  rw [List.take_succ, List.getElem?_eq_getElem h, Option.toList_some, dot_snoc]
  have e : (x.take k).length = k := by simp; omega
  rw [e, List.getD_eq_getElem?_getD, List.getElem?_eq_getElem h]
  rfl
theorem sm_take : ∀ (x : List Nat) (k : Nat), sm (x.take k) ≤ sm x
  | [], k => by simp [sm]
  | a :: x, 0 => by simp [sm]
  | a :: x, k + 1 => by
    have := sm_take x k
    simp only [List.take_succ_cons, sm]
    omega
section MS
variable {σ τ : am_S} {R U S : Nat} {A : Nat → Nat → Int} {X P : List Nat} {F : List (List Nat)} {d : Nat}
theorem ms_fr (h : ms R U A σ) (f : fr [(0, 27), (0, 32)] [19, 20, 21] [] [] σ τ) : ms R U A τ := by
  obtain ⟨h0, h1, h2, h3, h4, h5⟩ := h
  refine ⟨by rw [f.1 0 29 (by decide)]; exact h0, by rw [f.1 0 30 (by decide)]; exact h1, h2, h3, h4, fun r a j b => ?_⟩
  rw [f.2.1 18 (by decide)]
  exact h5 r a j b
theorem m_solves {Q : Int32 → am_S → Prop} (hb : ms R U A σ) (ht : mt X σ) (hX : X.length = U) (hX2 : sm X ≤ 16) (h1 : (∀ r, r < R → dot (A r) 0 X = 0) → Q 1 σ) (h0 : ¬ (∀ r, r < R → dot (A r) 0 X = 0) → Q 0 σ) : am_K ri am_Lm IX11_solves (d + 1) [.ref 0] σ Q := by
  obtain ⟨b1, b2, b3, b4, b5, b6⟩ := hb
  have inn : ∀ (r : Nat) (m k : Nat) (v : Int32), r < R → k + m = U → v.toInt = dot (A r) 0 (X.take k) →
      (¬ dot (A r) 0 X = 0 → am_X ri am_Lm IX11_solves (d + 1) 4 [some (.ref 0), some (.int (0 : Int32)), some (.int (nI (r + 1))), none, none] [] σ Q) →
      (dot (A r) 0 X = 0 → am_X ri am_Lm IX11_solves (d + 1) 4 [some (.ref 0), some (.int (1 : Int32)), some (.int (nI (r + 1))), none, none] [] σ Q) →
      am_X ri am_Lm IX11_solves (d + 1) 21 [some (.ref 0), some (.int (1 : Int32)), some (.int (nI r)), some (.int v), some (.int (nI k))] [] σ Q := by
    intro r m
    induction m with
    | zero =>
      intro k v hr hk hv hno hyes
      have e : X.take k = X := List.take_of_length_le (by omega)
      rw [e] at hv
      refine vX11_solves_21 (pk_le U k (fun _ => ⟨fun z => ?_, fun z => ?_⟩) (fun h => by omega) b2 rfl (by omega) (by omega))
      · rw [nI_1]
        exact hno fun h => z (i_eq.mpr (by rw [hv, h]; rfl))
      · rw [nI_1]
        refine hyes ?_
        rw [← hv, z]
        rfl
    | succ m ih =>
      intro k v hr hk hv hno hyes
      have e1 : (6 : Int32) * nI r + nI k = nI (6 * r + k) := by rw [show (6 : Int32) = nI 6 from rfl, pk_mul, nI_add]
      have hn := b6 r hr k (by omega)
      refine vX11_solves_21 (pk_le U k (fun h => by omega) (fun _ => ⟨pk_in (6 * r + k) 18 (by omega) e1, pk_in k 32 (by omega), ?_⟩) b2 rfl (by omega) (by omega))
      rw [e1, nI_clamp (n := k) (by omega), nI_clamp (n := 6 * r + k) (by omega), nI_1, ht k (by omega)]
      have hd := dot_take (A r) X k (by omega)
      have c1 := dot_bd (a := A r) (B := 9) (by decide) (X.take k) 0 fun i _ b => (b6 r hr i (by simp at b; omega)).2
      have c2 := dot_bd (a := A r) (B := 9) (by decide) (X.take (k + 1)) 0 fun i _ b => (b6 r hr i (by simp at b; omega)).2
      have c3 := sm_take X k
      have c4 := sm_take X (k + 1)
      have c5 := big_sm X k
      refine ih (k + 1) _ hr (by omega) ?_ hno hyes
      rw [t_add hv (t_mul hn.1 (nI_toInt (by omega)) (by omega)) (by omega), hd]
  have out : ∀ m r, r + m = R → (∀ q, q < r → dot (A q) 0 X = 0) → am_X ri am_Lm IX11_solves (d + 1) 4 [some (.ref 0), some (.int (1 : Int32)), some (.int (nI r)), none, none] [] σ Q := by
    intro m
    induction m with
    | zero =>
      intro r hr ha
      exact vX11_solves_4 (pk_le R r (fun _ => ⟨Or.inr rfl, h1 fun q hq => ha q (by omega)⟩) (fun h => by omega) b1 rfl (by omega) (by omega))
    | succ m ih =>
      intro r hr ha
      refine vX11_solves_4 (pk_le R r (fun h => by omega) (fun _ => ⟨fun z => absurd z (by decide), fun _ => ?_⟩) b1 rfl (by omega) (by omega))
      refine inn r U 0 0 (by omega) (by omega) rfl (fun hn => ?_) (fun hy => ?_)
      · have hc : ¬ (∀ r, r < R → dot (A r) 0 X = 0) := fun h => hn (h r (by omega))
        exact vX11_solves_4 (pk_le R (r + 1) (fun _ => ⟨Or.inl rfl, h0 hc⟩) (fun _ => ⟨fun _ => ⟨Or.inl rfl, h0 hc⟩, fun z => absurd rfl z⟩) b1 rfl (by omega) (by omega))
      · refine ih (r + 1) (by omega) fun q hq => ?_
        by_cases e : q = r
        · subst e
          exact hy
        · exact ha q (by omega)
  exact vX11_solves (out R 0 (by omega) fun q hq => absurd hq (Nat.not_lt_zero _))
theorem m_isLeast {Q : Int32 → am_S → Prop} (hb : ms R U A σ) (ht : mt X σ) (hX : X.length = U) (hX2 : sm X ≤ 16) (hf : mf U F σ) (hF2 : ∀ y ∈ F, sm y ≤ 16 ∧ y.length = U) (h1 : (∀ y ∈ F, ¬ vle y X) → Q 1 σ) (h0 : ¬ (∀ y ∈ F, ¬ vle y X) → Q 0 σ) : am_K ri am_Lm IX11_isLeast (d + 1) [.ref 0] σ Q := by
  obtain ⟨b1, b2, b3, b4, b5, b6⟩ := hb
  obtain ⟨f1, f2, f3⟩ := hf
  have mem : ∀ i, i < F.length → F.getD i [] ∈ F := fun i hi => by
    rw [List.getD_eq_getElem?_getD, List.getElem?_eq_getElem hi]
    exact List.getElem_mem hi
  have vl : ∀ i, i < F.length → (vle (F.getD i []) X ↔ ∀ j, j < U → (F.getD i []).getD j 0 ≤ X.getD j 0) := fun i hi => by
    rw [vle_iff (by rw [(hF2 _ (mem i hi)).2, hX]), (hF2 _ (mem i hi)).2]
  have inn : ∀ (i : Nat) (m k : Nat), i < F.length → k + m = U → (∀ j, j < k → (F.getD i []).getD j 0 ≤ X.getD j 0) →
      (vle (F.getD i []) X → am_X ri am_Lm IX11_isLeast (d + 1) 4 [some (.ref 0), some (.int (0 : Int32)), some (.int (nI (i + 1))), none, none] [] σ Q) →
      (¬ vle (F.getD i []) X → am_X ri am_Lm IX11_isLeast (d + 1) 4 [some (.ref 0), some (.int (1 : Int32)), some (.int (nI (i + 1))), none, none] [] σ Q) →
      am_X ri am_Lm IX11_isLeast (d + 1) 21 [some (.ref 0), some (.int (1 : Int32)), some (.int (nI i)), some (.int (1 : Int32)), some (.int (nI k))] [] σ Q := by
    intro i m
    induction m with
    | zero =>
      intro k hi hk ha hyes hno
      refine vX11_isLeast_21 (pk_le U k (fun _ => ⟨fun _ => ?_, fun z => absurd z (by decide)⟩) (fun h => by omega) b2 rfl (by omega) (by omega))
      rw [nI_1]
      exact hyes ((vl i hi).mpr fun j hj => ha j (by omega))
    | succ m ih =>
      intro k hi hk ha hyes hno
      have e1 : (6 : Int32) * nI i + nI k = nI (6 * i + k) := by rw [show (6 : Int32) = nI 6 from rfl, pk_mul, nI_add]
      refine vX11_isLeast_21 (pk_le U k (fun h => by omega) (fun _ => ⟨fun z => absurd z (by decide), fun _ => ⟨pk_in (6 * i + k) 606 (by omega) e1, pk_in k 32 (by omega), ?_⟩⟩) b2 rfl (by omega) (by omega))
      rw [e1, nI_clamp (n := k) (by omega), nI_clamp (n := 6 * i + k) (by omega), ht k (by omega), f3 i hi k (by omega)]
      have c1 := big_sm X k
      have c2 := big_sm (F.getD i []) k
      have c3 := (hF2 _ (mem i hi)).1
      refine pk_lt (X.getD k 0) ((F.getD i []).getD k 0) (fun h => ?_) (fun h => ?_)
      · have hn : ¬ vle (F.getD i []) X := fun z => by
          have := (vl i hi).mp z k (by omega)
          omega
        rw [nI_1]
        refine vX11_isLeast_21 (pk_le U (k + 1) (fun _ => ⟨fun z => absurd rfl z, fun _ => ?_⟩) (fun _ => ⟨fun _ => ⟨fun z => absurd rfl z, fun _ => ?_⟩, fun z => absurd rfl z⟩) b2 rfl (by omega) (by omega)) <;> (rw [nI_1]; exact hno hn)
      · rw [nI_1]
        refine ih (k + 1) hi (by omega) (fun j hj => ?_) hyes hno
        by_cases e : j = k
        · subst e
          exact h
        · exact ha j (by omega)
  have out : ∀ m i, i + m = F.length → (∀ q, q < i → ¬ vle (F.getD q []) X) → am_X ri am_Lm IX11_isLeast (d + 1) 4 [some (.ref 0), some (.int (1 : Int32)), some (.int (nI i)), none, none] [] σ Q := by
    intro m
    induction m with
    | zero =>
      intro i hi ha
      refine vX11_isLeast_4 (pk_le F.length i (fun _ => ⟨Or.inr rfl, h1 fun y hy => ?_⟩) (fun h => by omega) f1 rfl (by omega) (by omega))
      obtain ⟨q, hq, e⟩ := List.getElem_of_mem hy
      have := ha q (by omega)
      rw [List.getD_eq_getElem?_getD, List.getElem?_eq_getElem hq, Option.getD_some, e] at this
      exact this
    | succ m ih =>
      intro i hi ha
      refine vX11_isLeast_4 (pk_le F.length i (fun h => by omega) (fun _ => ⟨fun z => absurd z (by decide), fun _ => ?_⟩) f1 rfl (by omega) (by omega))
      refine inn i U 0 (by omega) (by omega) (fun j hj => absurd hj (Nat.not_lt_zero _)) (fun hy => ?_) (fun hn => ?_)
      · have hc : ¬ (∀ y ∈ F, ¬ vle y X) := fun h => h _ (mem i (by omega)) hy
        exact vX11_isLeast_4 (pk_le F.length (i + 1) (fun _ => ⟨Or.inl rfl, h0 hc⟩) (fun _ => ⟨fun _ => ⟨Or.inl rfl, h0 hc⟩, fun z => absurd rfl z⟩) f1 rfl (by omega) (by omega))
      · refine ih (i + 1) (by omega) fun q hq => ?_
        by_cases e : q = i
        · subst e
          exact hn
        · exact ha q (by omega)
  exact vX11_isLeast (out F.length 0 (by omega) fun q hq => absurd hq (Nat.not_lt_zero _))
/-- what has been found, and that no room was wanting; or more than there is room for -/
def mg (R U S : Nat) (A : Nat → Nat → Int) (F : List (List Nat)) (σ : am_S) : Prop := (gS σ 0 27 = 0 ∧ mf U F σ ∧ F.Nodup) 
def mg1 (R U S : Nat) (A : Nat → Nat → Int) (σ : am_S) : Prop := gS σ 0 27 = 1 ∧ ∃ G : List (List Nat), G.Nodup ∧ G.length = 101 ∧ ∀ y ∈ G, isMin R U S A y
theorem mt_fr (h : mt X σ) (f : fr [(0, 27), (0, 32)] [19, 21] [] [] σ τ) : mt X τ := by
  intro j hj
  rw [f.2.1 20 (by decide)]
  exact h j hj
theorem mf_fr (h : mf U F σ) (f : fr [] [20] [] [] σ τ) : mf U F τ := by
  refine ⟨by rw [f.1 0 32 (by decide)]; exact h.1, h.2.1, fun i a j b => ?_⟩
  rw [f.2.1 19 (by decide)]
  exact h.2.2 i a j b
theorem m_give {T : Nat} (hT : T ≤ S) (hS : S ≤ 16) (hT0 : 0 < T) : ∀ (n : Nat) (P : List Nat) (l d : Nat) (F : List (List Nat)) (σ : am_S) (Q : Unit → am_S → Prop), P.length + (n + 1) = U → sm P + l = T → ms R U A σ → mt P σ →
    ((mg1 R U S A σ ∧ Q () σ) ∨
    (mg R U S A F σ ∧ (∀ y ∈ F, isMin R U S A y ∧ (sm y < T ∨ lxl y P)) ∧ (∀ y, isMin R U S A y → sm y < T → y ∈ F) ∧
      (∀ σ' F', fr [(0, 27), (0, 32)] [19, 20] [] [] σ σ' → mt P σ' → mg R U S A F' σ' → (∀ y, y ∈ F' ↔ y ∈ F ∨ (isMin R U S A y ∧ sm y = T ∧ ∃ r, y = P ++ r)) → Q () σ') ∧
      (∀ σ', fr [(0, 27), (0, 32)] [19, 20] [] [] σ σ' → mt P σ' → mg1 R U S A σ' → Q () σ'))) → am_K ru am_Lm IX11_give (d + n + 2) [.ref 0, .int (nI P.length), .int (nI l)] σ Q := by
  intro n
  induction n with
  | zero =>
    intro P l d F σ Q hP hs hb ht H
    rcases H with ⟨hm, H⟩ | ⟨hm, hF1, hF2, H1, H2⟩
    · exact vX11_give ⟨fun z => absurd z (by rw [hm.1]; decide), fun _ => H⟩
    · obtain ⟨m1, m2, m3⟩ := hm
      have hU := hb.2.2.2.2.1
      have e1 : gS σ 0 30 - 1 = nI P.length := by
        rw [hb.2.1, show U = P.length + 1 by omega]
        exact nI_pred _
      refine vX11_give ⟨fun _ => ⟨fun z => absurd (by rw [e1]) z, fun _ => ⟨pk_in P.length 32 (by omega), ?_⟩⟩, fun z => absurd m1 z⟩
      rw [nI_clamp (by omega)]
      have hfr0 : fr [] [20] [] [] σ (wA σ 20 P.length (nI l)) := fr_wA fr_rfl (by decide)
      have hb1 : ms R U A (wA σ 20 P.length (nI l)) := ms_fr hb (fr_mono hfr0 (by decide) (by decide) (by decide) (by decide))
      have ht1 : mt (P ++ [l]) (wA σ 20 P.length (nI l)) := by
        intro j hj
        by_cases e : j = P.length
        · subst e
          rw [wA_at, getD_last]
        · simp at hj
          rw [wA_ne (fun z => e z.2), getD_left (by omega)]
          exact ht j (by omega)
      have htP : ∀ τ, mt (P ++ [l]) τ → mt P τ := fun τ h j hj => by
        rw [h j (by simp; omega), getD_left hj]
      have hmf1 := mf_fr m2 hfr0
      have hsX : sm (P ++ [l]) = T := by simp [sm_app, sm]; omega
      have hlX : (P ++ [l]).length = U := by simp; omega
      have hFb : ∀ y ∈ F, sm y ≤ 16 ∧ y.length = U := fun y hy => by
        have := (hF1 y hy).1.1
        exact ⟨by have := this.2.1; omega, this.1⟩
      have hone : ∀ y, (∃ r, y = P ++ r) → y.length = U → sm y = T → y = P ++ [l] := by
        rintro y ⟨r, rfl⟩ h1 h2
        simp only [List.length_append, sm_app] at h1 h2
        cases r with
        | nil => simp at h1; omega
        | cons a r =>
          cases r with
          | nil => simp only [sm] at h2; rw [show a = l by omega]
          | cons b r => simp at h1; omega
      have nomin : ¬ isMin R U S A (P ++ [l]) → Q () (wA σ 20 P.length (nI l)) := fun hn => by
        refine H1 _ F (fr_mono hfr0 (by decide) (by decide) (by decide) (by decide)) (htP _ ht1) ⟨m1, hmf1, m3⟩ fun y => ⟨Or.inl, fun h => ?_⟩
        rcases h with h | ⟨h1, h2, h3⟩
        · exact h
        · rw [hone y h3 h1.1.1 h2] at h1
          exact absurd h1 hn
      refine m_solves (d := d) hb1 ht1 hlX (by omega) (fun hz => ⟨fun z => absurd z (by decide), fun _ => ?_⟩) (fun hz => ⟨fun _ => nomin fun h => hz h.1.2.2.2, fun z => absurd rfl z⟩)
      refine m_isLeast (d := d) hb1 ht1 hlX (by omega) hmf1 hFb (fun hl => ⟨fun z => absurd z (by decide), fun _ => ?_⟩) (fun hl => ⟨fun _ => nomin fun h => hl fun y hy hv => ?_, fun z => absurd rfl z⟩)
      · · have hmin : isMin R U S A (P ++ [l]) := by
            refine ⟨⟨hlX, by omega, by omega, hz⟩, fun y hy hv => Classical.byContradiction fun ne => ?_⟩
            obtain ⟨z, hz1, hz2⟩ := min_below (sm y) (Nat.le_refl _) hy
            have s1 := vle_sm hz2
            have s2 := vle_sm hv
            have s3 : sm y ≠ sm (P ++ [l]) := fun e => ne (vle_eq hv e)
            exact hl z (hF2 z hz1 (by omega)) (vle_trans hz2 hv)
          have hnew : P ++ [l] ∉ F := fun hc => by
            rcases (hF1 _ hc).2 with h | h
            · omega
            · exact lxl_irr _ _ h
          have c32 : gS (wA σ 20 P.length (nI l)) 0 32 = nI F.length := hmf1.1
          refine ⟨fun hc => ⟨Or.inl rfl, ?_⟩, fun hc => ⟨Or.inr rfl, ?_⟩⟩
          · have hlt : F.length < 100 := by
              refine Nat.lt_of_le_of_ne m2.2.1 fun e => hc ?_
              rw [c32, e]
              rfl
            have cp : ∀ m k τ, k + m = U → fr [(0, 27), (0, 32)] [19, 20] [] [] σ τ → mt (P ++ [l]) τ → gS τ 0 27 = 0 → mf U F τ → (∀ j, j < k → gA τ 19 (6 * F.length + j) = nI ((P ++ [l]).getD j 0)) → am_X ru am_Lm IX11_give (d + 0 + 1 + 1) 66 [some (.ref 0), some (.int (nI P.length)), some (.int (nI l)), some (.int (nI k))] [] τ Q := by
              intro m
              induction m with
              | zero =>
                intro k τ hk g1 g2 g3 g4 g5
                have hbt := ms_fr hb (fr_mono g1 (by decide) (by decide) (by decide) (by decide))
                refine vX11_give_66 (pk_le U k (fun _ => ?_) (fun h => by omega) hbt.2.1 rfl (by omega) (by omega))
                refine H1 _ (F ++ [P ++ [l]]) (fr_wS g1 (by decide)) (htP _ g2) ⟨?_, ⟨?_, by simp; omega, fun i hi j hj => ?_⟩, ?_⟩ (fun y => ?_)
                · rw [wS_ne (by omega)]
                  exact g3
                · rw [wS_at, g4.1, nI_1]
                  simp
                · simp at hi
                  show gA τ 19 (6 * i + j) = _
                  simp only [List.getD_eq_getElem?_getD]
                  by_cases e : i = F.length
                  · subst e
                    rw [List.getElem?_append_right (Nat.le_refl _)]
                    simp only [Nat.sub_self, List.getElem?_cons_zero, Option.getD_some]
                    rw [← List.getD_eq_getElem?_getD]
                    exact g5 j (by omega)
                  · rw [List.getElem?_append_left (by omega)]
                    have := g4.2.2 i (by omega) j hj
                    simpa only [List.getD_eq_getElem?_getD] using this
                · exact List.nodup_append.mpr ⟨m3, by simp, fun a ha b hb => by
                    simp at hb
                    subst hb
                    exact fun e => hnew (e ▸ ha)⟩
                · rw [List.mem_append, List.mem_singleton]
                  constructor
                  · rintro (h | h)
                    · exact Or.inl h
                    · exact Or.inr ⟨h ▸ hmin, h ▸ hsX, [l], h⟩
                  · rintro (h | ⟨h1, h2, h3⟩)
                    · exact Or.inl h
                    · exact Or.inr (hone y h3 h1.1.1 h2)
              | succ m ih =>
                intro k τ hk g1 g2 g3 g4 g5
                have hbt := ms_fr hb (fr_mono g1 (by decide) (by decide) (by decide) (by decide))
                have e2 : (6 : Int32) * gS τ 0 32 + nI k = nI (6 * F.length + k) := by rw [g4.1, show (6 : Int32) = nI 6 from rfl, pk_mul, nI_add]
                refine vX11_give_66 (pk_le U k (fun h => by omega) (fun _ => ⟨pk_in k 32 (by omega), pk_in (6 * F.length + k) 606 (by omega) e2, ?_⟩) hbt.2.1 rfl (by omega) (by omega))
                rw [e2, nI_clamp (n := k) (by omega), nI_clamp (n := 6 * F.length + k) (by omega), nI_1]
                refine ih (k + 1) _ (by omega) (fr_wA g1 (by decide)) (fun j hj => ?_) g3 ⟨g4.1, g4.2.1, fun i hi j hj => ?_⟩ (fun j hj => ?_)
                · rw [wA_arr (by decide)]
                  exact g2 j hj
                · rw [wA_ne (by omega)]
                  exact g4.2.2 i hi j hj
                · by_cases e : j = k
                  · subst e
                    rw [wA_at]
                    exact g2 j (by omega)
                  · rw [wA_ne (by omega)]
                    exact g5 j (by omega)
            refine cp U 0 _ (by omega) (fr_wS (fr_mono hfr0 (by decide) (by decide) (by decide) (by decide)) (by decide)) (fun j hj => ht1 j hj) (wS_at _ _ _ _) ⟨?_, hmf1.2⟩ (fun j hj => absurd hj (Nat.not_lt_zero _))
            rw [wS_ne (by omega)]
            exact c32
          · have h100 : F.length = 100 := by
              rw [c32, show (100 : Int32) = nI 100 from rfl] at hc
              exact (nI_eq (by have := m2.2.1; omega) (by omega)).mp hc
            refine H2 _ (fr_wS (fr_mono hfr0 (by decide) (by decide) (by decide) (by decide)) (by decide)) (fun j hj => htP _ ht1 j hj) ⟨wS_at _ _ _ _, F ++ [P ++ [l]], ?_, by simp; omega, fun y hy => ?_⟩
            · exact List.nodup_append.mpr ⟨m3, by simp, fun a ha b hb => by
                simp at hb
                subst hb
                exact fun e => hnew (e ▸ ha)⟩
            · rcases List.mem_append.mp hy with h | h
              · exact (hF1 y h).1
              · simp at h
                rw [h]
                exact hmin
      · have e := h.2 y (hF1 y hy).1.1 hv
        rcases (hF1 y hy).2 with g | g
        · rw [e] at g
          omega
        · rw [e] at g
          exact lxl_irr _ _ g
  | succ n ih =>
    intro P l d F σ Q hP hs hb ht H
    have hU := hb.2.2.2.2.1
    have e1 : gS σ 0 30 - 1 = nI (U - 1) := by
      rw [hb.2.1, show U = (U - 1) + 1 by omega]
      exact nI_pred _
    rcases H with ⟨hm, H⟩ | ⟨hm, hF1, hF2, H1, H2⟩
    · exact vX11_give ⟨fun z => absurd z (by rw [hm.1]; decide), fun _ => H⟩
    · have loop : ∀ m v F1 τ, v + m = l + 1 → fr [(0, 27), (0, 32)] [19, 20] [] [] σ τ → mt P τ → (mg1 R U S A τ ∨ (mg R U S A F1 τ ∧ (∀ y ∈ F1, isMin R U S A y ∧ (sm y < T ∨ lxl y (P ++ [v]))) ∧ (∀ y, isMin R U S A y → sm y < T → y ∈ F1) ∧ (∀ y, y ∈ F1 ↔ y ∈ F ∨ (isMin R U S A y ∧ sm y = T ∧ ∃ a r, y = P ++ a :: r ∧ a < v)))) →
          am_X ru am_Lm IX11_give (d + (n + 1) + 1 + 1) 113 [some (.ref 0), some (.int (nI P.length)), some (.int (nI l)), some (.int (nI v))] [] τ Q := by
        intro m
        induction m with
        | zero =>
          intro v F1 τ hv g1 g2 g3
          refine vX11_give_113 (pk_lt l v (fun _ => ?_) (fun h => by omega))
          rcases g3 with g3 | ⟨g3, _, _, g6⟩
          · exact H2 τ g1 g2 g3
          · refine H1 τ F1 g1 g2 g3 fun y => (g6 y).trans ⟨fun h => ?_, fun h => ?_⟩
            · rcases h with h | ⟨h1, h2, a, r, h3, _⟩
              · exact Or.inl h
              · exact Or.inr ⟨h1, h2, a :: r, h3⟩
            · rcases h with h | ⟨h1, h2, r, h3⟩
              · exact Or.inl h
              · refine Or.inr ⟨h1, h2, ?_⟩
                have hl := h1.1.1
                rw [h3] at hl h2
                cases r with
                | nil => simp at hl; omega
                | cons a r =>
                  simp only [sm_app, sm] at h2
                  exact ⟨a, r, h3, by omega⟩
        | succ m ihm =>
          intro v F1 τ hv g1 g2 g3
          refine vX11_give_113 (pk_lt l v (fun h => by omega) (fun _ => ⟨pk_in P.length 32 (by omega), ?_⟩))
          rw [nI_clamp (by omega), nI_1, nI_1, n_sub (by omega) (by omega)]
          have hfr0 : fr [] [20] [] [] τ (wA τ 20 P.length (nI v)) := fr_wA fr_rfl (by decide)
          have g1' : fr [(0, 27), (0, 32)] [19, 20] [] [] σ (wA τ 20 P.length (nI v)) := fr_wA g1 (by decide)
          have hb1 : ms R U A (wA τ 20 P.length (nI v)) := ms_fr hb (fr_mono g1' (by decide) (by decide) (by decide) (by decide))
          have ht1 : mt (P ++ [v]) (wA τ 20 P.length (nI v)) := by
            intro j hj
            by_cases e : j = P.length
            · subst e
              rw [wA_at, getD_last]
            · simp at hj
              rw [wA_ne (fun z => e z.2), getD_left (by omega)]
              exact g2 j (by omega)
          have htP : ∀ τ, mt (P ++ [v]) τ → mt P τ := fun τ h j hj => by
            rw [h j (by simp; omega), getD_left hj]
          have hlp : (P ++ [v]).length = P.length + 1 := by simp
          rw [← hlp]
          refine ih (P ++ [v]) (l - v) d F1 _ _ (by rw [hlp]; omega) (by simp [sm_app, sm]; omega) hb1 ht1 ?_
          rcases g3 with g3 | ⟨g3, g4, g5, g6⟩
          · exact Or.inl ⟨g3, ihm (v + 1) F1 _ (by omega) g1' (htP _ ht1) (Or.inl g3)⟩
          · refine Or.inr ⟨⟨g3.1, mf_fr g3.2.1 hfr0, g3.2.2⟩, g4, g5, fun σ' F2 z1 z2 z3 z4 => ?_, fun σ' z1 z2 z3 => ?_⟩
            · refine ihm (v + 1) F2 σ' (by omega) (fr_trans g1' z1) (htP _ z2) (Or.inr ⟨z3, fun y hy => ?_, fun y h1 h2 => (z4 y).mpr (Or.inl (g5 y h1 h2)), fun y => ?_⟩)
              · rcases (z4 y).mp hy with h | ⟨h1, h2, r, h3⟩
                · refine ⟨(g4 y h).1, (g4 y h).2.imp id fun z => lxl_of P ?_⟩
                  rcases lxl_app P (by have := (g4 y h).1.1.1; omega) z with z | ⟨a, r, z1, z2⟩
                  · exact Or.inl z
                  · exact Or.inr ⟨a, r, z1, by omega⟩
                · exact ⟨h1, Or.inr (lxl_of P (Or.inr ⟨v, r, by simpa using h3, by omega⟩))⟩
              · rw [z4 y, g6 y]
                constructor
                · rintro ((h | ⟨h1, h2, a, r, h3, h4⟩) | ⟨h1, h2, r, h3⟩)
                  · exact Or.inl h
                  · exact Or.inr ⟨h1, h2, a, r, h3, by omega⟩
                  · exact Or.inr ⟨h1, h2, v, r, by simpa using h3, by omega⟩
                · rintro (h | ⟨h1, h2, a, r, h3, h4⟩)
                  · exact Or.inl (Or.inl h)
                  · by_cases e : a = v
                    · subst e
                      exact Or.inr ⟨h1, h2, r, by rw [h3]; simp⟩
                    · exact Or.inl (Or.inr ⟨h1, h2, a, r, h3, by omega⟩)
            · exact ihm (v + 1) F1 σ' (by omega) (fr_trans g1' z1) (htP _ z2) (Or.inl z3)
      refine vX11_give ⟨fun _ => ⟨fun _ => ?_, fun z => ?_⟩, fun z => absurd hm.1 z⟩
      · refine loop (l + 1) 0 F σ (by omega) fr_rfl ht (Or.inr ⟨hm, fun y hy => ⟨(hF1 y hy).1, (hF1 y hy).2.imp id fun z => lxl_of P (Or.inl z)⟩, hF2, fun y => ⟨Or.inl, fun h => ?_⟩⟩)
        rcases h with h | ⟨_, _, _, _, _, h⟩
        · exact h
        · omega
      · rw [e1] at z
        have := (nI_eq (by omega) (by omega)).mp z
        omega
end MS
