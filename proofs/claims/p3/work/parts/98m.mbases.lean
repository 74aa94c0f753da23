/-! ===== the reference: bases ===== -/
def wt (n : Nat) (w : Nat → Int) (σ : am_S) : Prop := ∀ j, j < n → (gA σ 23 j).toInt = w j ∧ w j ≠ 0 ∧ -8 ≤ w j ∧ w j ≤ 8
def mB (n : Nat) (F : List (List Nat)) (σ : am_S) : Prop := gS σ 0 36 = nI F.length ∧ F.length ≤ 16 ∧ ∀ i, i < F.length → ∀ j, j < n → gA σ 24 (32 * i + j) = nI ((F.getD i []).getD j 0)
def mgB (n : Nat) (F : List (List Nat)) (σ : am_S) : Prop := gS σ 0 27 = 0 ∧ mB n F σ ∧ F.Nodup
def mgB1 (n S : Nat) (w : Nat → Int) (σ : am_S) : Prop := gS σ 0 27 = 1 ∧ 16 < (sols 1 n S (fun _ => w)).length
noncomputable abbrev sP (w : Nat → Int) (x : List Nat) : Nat := sd (fun j => 0 < w j) 0 x
noncomputable abbrev sN (w : Nat → Int) (x : List Nat) : Nat := sd (fun j => 0 < - w j) 0 x
theorem sd_app (P : Nat → Prop) : ∀ (x y : List Nat) (i : Nat), sd P i (x ++ y) = sd P i x + sd P (i + x.length) y
  | [], y, i => by simp [sd]
  | a :: x, y, i => by
    simp only [List.cons_append, sd, sd_app P x y (i + 1), List.length_cons]
    rw [show i + 1 + x.length = i + (x.length + 1) by omega]
    omega
abbrev bW (σ τ : am_S) : Prop := fr [(0, 27), (0, 36)] [20, 24] [] [] σ τ
section MB
variable {σ τ : am_S} {n : Nat} {w : Nat → Int} {X P : List Nat} {F : List (List Nat)} {d : Nat}
theorem wt_fr (h : wt n w σ) {S : List (Nat × Nat)} {A : List Nat} (f : fr S A [] [] σ τ) (hA : 23 ∉ A) : wt n w τ := fun j hj => by
  rw [f.2.1 23 hA]
  exact h j hj
theorem mB_fr (h : mB n F σ) (f : fr [] [20] [] [] σ τ) : mB n F τ := by
  refine ⟨by rw [f.1 0 36 (by decide)]; exact h.1, h.2.1, fun i a j b => ?_⟩
  rw [f.2.1 24 (by decide)]
  exact h.2.2 i a j b
theorem m_isLeastBase {Q : Int32 → am_S → Prop} (hn : n ≤ 16) (ht : mt X σ) (hX : X.length = n) (hX2 : sm X ≤ 16) (hf : mB n F σ) (hF2 : ∀ y ∈ F, sm y ≤ 16 ∧ y.length = n) (h1 : (∀ y ∈ F, ¬ vle y X) → Q 1 σ) (h0 : ¬ (∀ y ∈ F, ¬ vle y X) → Q 0 σ) : am_K ri am_Lm IX11_isLeastBase (d + 1) [.ref 0, .int (nI n)] σ Q := by
  obtain ⟨f1, f2, f3⟩ := hf
  have mem : ∀ i, i < F.length → F.getD i [] ∈ F := fun i hi => by
    rw [List.getD_eq_getElem?_getD, List.getElem?_eq_getElem hi]
    exact List.getElem_mem hi
  have vl : ∀ i, i < F.length → (vle (F.getD i []) X ↔ ∀ j, j < n → (F.getD i []).getD j 0 ≤ X.getD j 0) := fun i hi => by
    rw [vle_iff (by rw [(hF2 _ (mem i hi)).2, hX]), (hF2 _ (mem i hi)).2]
  have inn : ∀ (i : Nat) (m k : Nat), i < F.length → k + m = n → (∀ j, j < k → (F.getD i []).getD j 0 ≤ X.getD j 0) →
      (vle (F.getD i []) X → am_X ri am_Lm IX11_isLeastBase (d + 1) 4 [some (.ref 0), some (.int (nI n)), some (.int (0 : Int32)), some (.int (nI (i + 1))), none, none] [] σ Q) →
      (¬ vle (F.getD i []) X → am_X ri am_Lm IX11_isLeastBase (d + 1) 4 [some (.ref 0), some (.int (nI n)), some (.int (1 : Int32)), some (.int (nI (i + 1))), none, none] [] σ Q) →
      am_X ri am_Lm IX11_isLeastBase (d + 1) 22 [some (.ref 0), some (.int (nI n)), some (.int (1 : Int32)), some (.int (nI i)), some (.int (1 : Int32)), some (.int (nI k))] [] σ Q := by
    intro i m
    induction m with
    | zero =>
      intro k hi hk ha hyes hno
      refine vX11_isLeastBase_22 (pk_le n k (fun _ => ⟨fun _ => ?_, fun z => absurd z (by decide)⟩) (fun h => by omega) rfl rfl (by omega) (by omega))
      rw [nI_1]
      exact hyes ((vl i hi).mpr fun j hj => ha j (by omega))
    | succ m ih =>
      intro k hi hk ha hyes hno
      have e1 : (32 : Int32) * nI i + nI k = nI (32 * i + k) := by rw [show (32 : Int32) = nI 32 from rfl, pk_mul, nI_add]
      refine vX11_isLeastBase_22 (pk_le n k (fun h => by omega) (fun _ => ⟨fun z => absurd z (by decide), fun _ => ⟨pk_in (32 * i + k) 600 (by omega) e1, pk_in k 32 (by omega), ?_⟩⟩) rfl rfl (by omega) (by omega))
      rw [e1, nI_clamp (n := k) (by omega), nI_clamp (n := 32 * i + k) (by omega), ht k (by omega), f3 i hi k (by omega)]
      have c1 := big_sm X k
      have c2 := big_sm (F.getD i []) k
      have c3 := (hF2 _ (mem i hi)).1
      refine pk_lt (X.getD k 0) ((F.getD i []).getD k 0) (fun h => ?_) (fun h => ?_)
      · have hn : ¬ vle (F.getD i []) X := fun z => by
          have := (vl i hi).mp z k (by omega)
          omega
        rw [nI_1]
        refine vX11_isLeastBase_22 (pk_le n (k + 1) (fun _ => ⟨fun z => absurd rfl z, fun _ => ?_⟩) (fun _ => ⟨fun _ => ⟨fun z => absurd rfl z, fun _ => ?_⟩, fun z => absurd rfl z⟩) rfl rfl (by omega) (by omega)) <;> (rw [nI_1]; exact hno hn)
      · rw [nI_1]
        refine ih (k + 1) hi (by omega) (fun j hj => ?_) hyes hno
        by_cases e : j = k
        · subst e
          exact h
        · exact ha j (by omega)
  have out : ∀ m i, i + m = F.length → (∀ q, q < i → ¬ vle (F.getD q []) X) → am_X ri am_Lm IX11_isLeastBase (d + 1) 4 [some (.ref 0), some (.int (nI n)), some (.int (1 : Int32)), some (.int (nI i)), none, none] [] σ Q := by
    intro m
    induction m with
    | zero =>
      intro i hi ha
      refine vX11_isLeastBase_4 (pk_le F.length i (fun _ => ⟨Or.inr rfl, h1 fun y hy => ?_⟩) (fun h => by omega) f1 rfl (by omega) (by omega))
      obtain ⟨q, hq, e⟩ := List.getElem_of_mem hy
      have := ha q (by omega)
      rw [List.getD_eq_getElem?_getD, List.getElem?_eq_getElem hq, Option.getD_some, e] at this
      exact this
    | succ m ih =>
      intro i hi ha
      refine vX11_isLeastBase_4 (pk_le F.length i (fun h => by omega) (fun _ => ⟨fun z => absurd z (by decide), fun _ => ?_⟩) f1 rfl (by omega) (by omega))
      refine inn i n 0 (by omega) (by omega) (fun j hj => absurd hj (Nat.not_lt_zero _)) (fun hy => ?_) (fun hn => ?_)
      · have hc : ¬ (∀ y ∈ F, ¬ vle y X) := fun h => h _ (mem i (by omega)) hy
        exact vX11_isLeastBase_4 (pk_le F.length (i + 1) (fun _ => ⟨Or.inl rfl, h0 hc⟩) (fun _ => ⟨fun _ => ⟨Or.inl rfl, h0 hc⟩, fun z => absurd rfl z⟩) f1 rfl (by omega) (by omega))
      · refine ih (i + 1) (by omega) fun q hq => ?_
        by_cases e : q = i
        · subst e
          exact hn
        · exact ha q (by omega)
  exact vX11_isLeastBase (out F.length 0 (by omega) fun q hq => absurd hq (Nat.not_lt_zero _))
theorem m_giveBase {S T BL BR : Nat} (hS : S ≤ 16) (hT : T ≤ S) (hT0 : 0 < T) (hn : n ≤ 16) (hBL : BL ≤ 8) (hBR : BR ≤ 8) (hlam : ∀ y, isMin 1 n S (fun _ => w) y → sP w y ≤ BR ∧ sN w y ≤ BL) : ∀ (m : Nat) (P : List Nat) (l ls rs d : Nat) (su : Int32) (F : List (List Nat)) (σ : am_S) (Q : Unit → am_S → Prop), P.length + m = n → sm P + l = T → ls + sP w P = BR → rs + sN w P = BL → su.toInt = dot w 0 P → wt n w σ → mt P σ →
    ((mgB1 n S w σ ∧ Q () σ) ∨
    (mgB n F σ ∧ (∀ y ∈ F, isMin 1 n S (fun _ => w) y ∧ (sm y < T ∨ lxl y P)) ∧ (∀ y, isMin 1 n S (fun _ => w) y → sm y < T → y ∈ F) ∧
      (∀ σ' F', bW σ σ' → mt P σ' → mgB n F' σ' → (∀ y, y ∈ F' ↔ y ∈ F ∨ (isMin 1 n S (fun _ => w) y ∧ sm y = T ∧ ∃ r, y = P ++ r)) → Q () σ') ∧
      (∀ σ', bW σ σ' → mt P σ' → mgB1 n S w σ' → Q () σ'))) → am_K ru am_Lm IX11_giveBase (d + m + 2) [.ref 0, .int (nI P.length), .int (nI n), .int (nI l), .int (nI ls), .int (nI rs), .int su] σ Q := by
  intro m
  induction m with
  | zero =>
    intro P l ls rs d su F σ Q hP hs h1 h2 hsu hw ht H
    rcases H with ⟨hm, H⟩ | ⟨hm, hF1, hF2, H1, H2⟩
    · exact vX11_giveBase ⟨fun z => absurd z (by rw [hm.1]; decide), fun _ => H⟩
    · obtain ⟨m1, m2, m3⟩ := hm
      have hPn : P.length = n := by omega
      have hone : ∀ y, (∃ r, y = P ++ r) → y.length = n → y = P := by
        rintro y ⟨r, rfl⟩ h1
        rw [List.length_append] at h1
        rw [List.length_eq_zero_iff.mp (by omega : r.length = 0), List.append_nil]
      have nomin : ¬ (isMin 1 n S (fun _ => w) P ∧ sm P = T) → Q () σ := fun hn => by
        refine H1 _ F fr_rfl ht ⟨m1, m2, m3⟩ fun y => ⟨Or.inl, fun h => ?_⟩
        rcases h with h | ⟨h1, h2, h3⟩
        · exact h
        · have e := hone y h3 h1.1.1
          rw [e] at h1 h2
          exact absurd ⟨h1, h2⟩ hn
      have hFb : ∀ y ∈ F, sm y ≤ 16 ∧ y.length = n := fun y hy => by
        have := (hF1 y hy).1.1
        exact ⟨by have := this.2.1; omega, this.1⟩
      refine vX11_giveBase ⟨fun _ => ⟨fun z => absurd (by rw [hPn]) z, fun _ => ⟨fun z => nomin fun c => z (by rw [show l = 0 by omega]; rfl), fun z => ⟨fun z2 => nomin fun c => z2 (i_eq.mpr (by rw [hsu]; exact c.1.1.2.2.2 0 (by omega))), fun z2 => ?_⟩⟩⟩, fun z => absurd m1 z⟩
      have hl0 : l = 0 := (nx_z (by omega)).mp z
      have hsT : sm P = T := by omega
      have hz : dot w 0 P = 0 := by rw [← hsu, z2]; rfl
      refine m_isLeastBase (d := d) hn ht hPn (by omega) m2 hFb (fun hl => ⟨fun z => absurd z (by decide), fun _ => ?_⟩) (fun hl => ⟨fun _ => nomin fun c => hl fun y hy hv => ?_, fun z => absurd rfl z⟩)
      · have hmin : isMin 1 n S (fun _ => w) P := by
          refine ⟨⟨hPn, by omega, by omega, fun r _ => hz⟩, fun y hy hv => Classical.byContradiction fun ne => ?_⟩
          obtain ⟨z, hz1, hz2⟩ := min_below (sm y) (Nat.le_refl _) hy
          have s1 := vle_sm hz2
          have s2 := vle_sm hv
          have s3 : sm y ≠ sm P := fun e => ne (vle_eq hv e)
          exact hl z (hF2 z hz1 (by omega)) (vle_trans hz2 hv)
        have hnew : P ∉ F := fun hc => by
          rcases (hF1 _ hc).2 with h | h
          · omega
          · have := lxl_irr P []
            rw [List.append_nil] at this
            exact this h
        have hnd : (F ++ [P]).Nodup := List.nodup_append.mpr ⟨m3, by simp, fun a ha b hb => by
          simp at hb
          subst hb
          exact fun e => hnew (e ▸ ha)⟩
        rw [m2.1]
        refine ⟨fun hc => ⟨Or.inl rfl, ?_⟩, fun hc => ⟨Or.inr rfl, ?_⟩⟩
        · have hlt : F.length < 16 := by
            refine Nat.lt_of_le_of_ne m2.2.1 fun e => hc ?_
            rw [e]
            rfl
          have cp : ∀ m k τ, k + m = n → bW σ τ → mt P τ → gS τ 0 27 = 0 → mB n F τ → (∀ j, j < k → gA τ 24 (32 * F.length + j) = nI (P.getD j 0)) → am_X ru am_Lm IX11_giveBase (d + 0 + 1 + 1) 58 [some (.ref 0), some (.int (nI P.length)), some (.int (nI n)), some (.int (nI l)), some (.int (nI ls)), some (.int (nI rs)), some (.int su), some (.int (nI k)), none] [] τ Q := by
            intro m
            induction m with
            | zero =>
              intro k τ hk g1 g2 g3 g4 g5
              refine vX11_giveBase_58 (pk_le n k (fun _ => ?_) (fun h => by omega))
              refine H1 _ (F ++ [P]) (fr_wS g1 (by decide)) g2 ⟨?_, ⟨?_, by simp; omega, fun i hi j hj => ?_⟩, hnd⟩ (fun y => ?_)
              · rw [wS_ne (by omega)]
                exact g3
              · rw [wS_at, g4.1, nI_1]
                simp
              · simp at hi
                rw [gA_wS]
                simp only [List.getD_eq_getElem?_getD]
                by_cases e : i = F.length
                · subst e
                  rw [List.getElem?_append_right (Nat.le_refl _)]
                  simp only [Nat.sub_self, List.getElem?_cons_zero, Option.getD_some]
                  rw [← List.getD_eq_getElem?_getD]
                  exact g5 j (by omega)
                · rw [List.getElem?_append_left (by omega)]
                  have := g4.2.2 i (by omega) j hj
                  simpa only [List.getD_eq_getElem?_getD] using this
              · rw [List.mem_append, List.mem_singleton]
                constructor
                · rintro (h | h)
                  · exact Or.inl h
                  · exact Or.inr ⟨h ▸ hmin, h ▸ hsT, [], by simpa using h⟩
                · rintro (h | ⟨h1, h2, h3⟩)
                  · exact Or.inl h
                  · exact Or.inr (hone y h3 h1.1.1)
            | succ m ih =>
              intro k τ hk g1 g2 g3 g4 g5
              have e2 : (32 : Int32) * gS τ 0 36 + nI k = nI (32 * F.length + k) := by rw [g4.1, show (32 : Int32) = nI 32 from rfl, pk_mul, nI_add]
              refine vX11_giveBase_58 (pk_le n k (fun h => by omega) (fun _ => ⟨pk_in k 32 (by omega), pk_in (32 * F.length + k) 600 (by omega) e2, ?_⟩))
              rw [e2, nI_clamp (n := k) (by omega), nI_clamp (n := 32 * F.length + k) (by omega), nI_1]
              refine ih (k + 1) _ (by omega) (fr_wA g1 (by decide)) (fun j hj => ?_) g3 ⟨g4.1, g4.2.1, fun i hi j hj => ?_⟩ (fun j hj => ?_)
              · rw [wA_arr (by decide)]
                exact g2 j hj
              · rw [wA_ne (by omega)]
                exact g4.2.2 i hi j hj
              · by_cases e : j = k
                · subst e
                  rw [wA_at]
                  exact g2 j (by omega)
                · rw [wA_ne (by omega)]
                  exact g5 j (by omega)
          refine cp n 0 _ (by omega) (fr_wS fr_rfl (by decide)) (fun j hj => ht j hj) (wS_at _ _ _ _) ⟨?_, m2.2⟩ (fun j hj => absurd hj (Nat.not_lt_zero _))
          rw [wS_ne (by omega)]
          exact m2.1
        · have h16 : F.length = 16 := (nI_eq (by have := m2.2.1; omega) (by omega)).mp (show nI F.length = nI 16 from hc)
          refine H2 _ (fr_wS fr_rfl (by decide)) (fun j hj => ht j hj) ⟨wS_at _ _ _ _, ?_⟩
          have := nd_le (l := sols 1 n S (fun _ => w)) hnd fun x hx => sols_mem.mpr (by
            rcases List.mem_append.mp hx with h | h
            · exact (hF1 x h).1
            · rw [List.mem_singleton.mp h]; exact hmin)
          rw [List.length_append, List.length_singleton] at this
          omega
      · have e := c.1.2 y (hF1 y hy).1.1 hv
        rcases (hF1 y hy).2 with g | g
        · rw [e] at g
          omega
        · rw [e] at g
          have := lxl_irr P []
          rw [List.append_nil] at this
          exact this g
  | succ m ih =>
    intro P l ls rs d su F σ Q hP hs h1 h2 hsu hw ht H
    rcases H with ⟨hm, H⟩ | ⟨hm, hF1, hF2, H1, H2⟩
    · exact vX11_giveBase ⟨fun z => absurd z (by rw [hm.1]; decide), fun _ => H⟩
    · obtain ⟨w1, w2, w3, w4⟩ := hw P.length (by omega)
      -- what the two sides have left behind one more
      have sides : ∀ v, sP w (P ++ [v]) = sP w P + (if 0 < w P.length then v else 0) ∧ sN w (P ++ [v]) = sN w P + (if 0 < w P.length then 0 else v) := fun v => by
        unfold sP sN
        rw [sd_app, sd_app, Nat.zero_add]
        simp only [sd, Nat.add_zero]
        by_cases h : 0 < w P.length
        · rw [dc_iff.mpr h, dc_f (p := 0 < -w P.length) (by omega), if_pos h, if_pos h]
          exact ⟨rfl, rfl⟩
        · rw [dc_f h, (dc_iff (p := 0 < -w P.length)).mpr (by omega), if_neg h, if_neg h]
          exact ⟨rfl, rfl⟩
      have sides2 : ∀ a r, sP w (P ++ [a]) ≤ sP w (P ++ a :: r) ∧ sN w (P ++ [a]) ≤ sN w (P ++ a :: r) := fun a r => by
        unfold sP sN
        rw [show P ++ a :: r = (P ++ [a]) ++ r by simp, sd_app _ (P ++ [a]) r, sd_app _ (P ++ [a]) r]
        omega
      have hbdP := dot_bd (a := w) (B := 8) (by decide) P 0 fun i _ hi => ⟨(hw i (by omega)).2.2.1, (hw i (by omega)).2.2.2⟩
      generalize hmay : (if 0 < w P.length then ls else rs) = may
      have loop : ∀ q v F1 τ, v + q = min l may + 1 → bW σ τ → mt P τ → (mgB1 n S w τ ∨ (mgB n F1 τ ∧ (∀ y ∈ F1, isMin 1 n S (fun _ => w) y ∧ (sm y < T ∨ lxl y (P ++ [v]))) ∧ (∀ y, isMin 1 n S (fun _ => w) y → sm y < T → y ∈ F1) ∧ (∀ y, y ∈ F1 ↔ y ∈ F ∨ (isMin 1 n S (fun _ => w) y ∧ sm y = T ∧ ∃ a r, y = P ++ a :: r ∧ a < v)))) →
          am_X ru am_Lm IX11_giveBase (d + (m + 1) + 1 + 1) 124 [some (.ref 0), some (.int (nI P.length)), some (.int (nI n)), some (.int (nI l)), some (.int (nI ls)), some (.int (nI rs)), some (.int su), some (.int (nI may)), some (.int (nI v))] [] τ Q := by
        intro q
        induction q with
        | zero =>
          intro v F1 τ hv g1 g2 g3
          have fin : Q () (wA τ 20 P.length (0 : Int32)) := by
            have f0 : bW σ (wA τ 20 P.length (0 : Int32)) := fr_wA g1 (by decide)
            have t0 : mt P (wA τ 20 P.length (0 : Int32)) := fun j hj => by rw [wA_ne (by omega)]; exact g2 j hj
            rcases g3 with g3 | ⟨g3, _, _, g6⟩
            · exact H2 _ f0 t0 g3
            · refine H1 _ F1 f0 t0 ⟨g3.1, mB_fr g3.2.1 (fr_wA fr_rfl (by decide)), g3.2.2⟩ fun y => (g6 y).trans ⟨fun h => ?_, fun h => ?_⟩
              · rcases h with h | ⟨h1, h2, a, r, h3, _⟩
                · exact Or.inl h
                · exact Or.inr ⟨h1, h2, a :: r, h3⟩
              · rcases h with h | ⟨k1, k2, r, k3⟩
                · exact Or.inl h
                · refine Or.inr ⟨k1, k2, ?_⟩
                  have hl := k1.1.1
                  have hla := hlam y k1
                  rw [k3] at hl k2 hla
                  cases r with
                  | nil => simp at hl; omega
                  | cons a r =>
                    simp only [sm_app, sm] at k2
                    have e1 := sides a
                    have e2 := sides2 a r
                    refine ⟨a, r, k3, ?_⟩
                    have : a ≤ may := by
                      rw [← hmay]
                      by_cases h : 0 < w P.length
                      · rw [if_pos h] at e1 ⊢
                        omega
                      · rw [if_neg h] at e1 ⊢
                        rw [if_neg h] at e1
                        omega
                    omega
          have hml : may ≤ 8 := by
            rw [← hmay]
            split <;> omega
          refine vX11_giveBase_124 (pk_lt l v (fun _ => ⟨pk_in P.length 32 (by omega), ?_⟩) (fun _ => pk_lt may v (fun _ => ⟨pk_in P.length 32 (by omega), ?_⟩) (fun h => by omega)))
          · rw [nI_clamp (n := P.length) (by omega)]
            exact fin
          · rw [nI_clamp (n := P.length) (by omega)]
            exact fin
        | succ q ihq =>
          intro v F1 τ hv g1 g2 g3
          have hml : may ≤ 8 := by
            rw [← hmay]
            split <;> omega
          have hvl : v ≤ l := by omega
          have hvm : v ≤ may := by omega
          have wτ := (wt_fr hw g1 (by decide)) P.length (by omega)
          have hlp : (P ++ [v]).length = P.length + 1 := by simp
          have go : ∀ ls' rs', ls' + sP w (P ++ [v]) = BR → rs' + sN w (P ++ [v]) = BL → am_K ru am_Lm IX11_giveBase (d + (m + 1) + 1) [.ref 0, .int (nI (P.length + 1)), .int (nI n), .int (nI (l - v)), .int (nI ls'), .int (nI rs'), .int (su + nI v * gA τ 23 P.length)] (wA τ 20 P.length (nI v)) (fun _ σ1 => am_X ru am_Lm IX11_giveBase (d + (m + 1) + 1 + 1) 124 [some (.ref 0), some (.int (nI P.length)), some (.int (nI n)), some (.int (nI l)), some (.int (nI ls)), some (.int (nI rs)), some (.int su), some (.int (nI may)), some (.int (nI (v + 1)))] [] σ1 Q) := by
            intro ls' rs' k1 k2
            have hfr0 : fr [] [20] [] [] τ (wA τ 20 P.length (nI v)) := fr_wA fr_rfl (by decide)
            have g1' : bW σ (wA τ 20 P.length (nI v)) := fr_wA g1 (by decide)
            have ht1 : mt (P ++ [v]) (wA τ 20 P.length (nI v)) := by
              intro j hj
              by_cases e : j = P.length
              · subst e
                rw [wA_at, getD_last]
              · simp at hj
                rw [wA_ne (fun z => e z.2), getD_left (by omega)]
                exact g2 j (by omega)
            have htP : ∀ τ, mt (P ++ [v]) τ → mt P τ := fun τ h j hj => by
              rw [h j (by simp; omega), getD_left hj]
            have hb1 : -(8 * 16) ≤ (v : Int) * w P.length ∧ (v : Int) * w P.length ≤ 8 * 16 := by
              have hv16 : (v : Int) ≤ 16 := by omega
              have hv0 : (0 : Int) ≤ (v : Int) := by omega
              have m1 := Int.mul_le_mul_of_nonneg_left w4 hv0
              have m2 := Int.mul_le_mul_of_nonneg_left w3 hv0
              omega
            rw [← hlp, show d + (m + 1) + 1 = d + m + 2 by omega]
            refine ih (P ++ [v]) (l - v) ls' rs' d _ F1 _ _ (by rw [hlp]; omega) (by simp [sm_app, sm]; omega) k1 k2 ?_ (wt_fr hw g1' (by decide)) ht1 ?_
            · rw [dot_snoc, t_add hsu (t_mul (nI_toInt (by omega)) wτ.1 (by omega)) (by omega), Int.mul_comm]
            · rcases g3 with g3 | ⟨g3, g4, g5, g6⟩
              · exact Or.inl ⟨g3, ihq (v + 1) F1 _ (by omega) g1' (htP _ ht1) (Or.inl g3)⟩
              · refine Or.inr ⟨⟨g3.1, mB_fr g3.2.1 hfr0, g3.2.2⟩, g4, g5, fun σ' F2 z1 z2 z3 z4 => ?_, fun σ' z1 z2 z3 => ?_⟩
                · refine ihq (v + 1) F2 σ' (by omega) (fr_trans g1' z1) (htP _ z2) (Or.inr ⟨z3, fun y hy => ?_, fun y h1 h2 => (z4 y).mpr (Or.inl (g5 y h1 h2)), fun y => ?_⟩)
                  · rcases (z4 y).mp hy with h | ⟨h1, h2, r, h3⟩
                    · refine ⟨(g4 y h).1, (g4 y h).2.imp id fun z => lxl_of P ?_⟩
                      rcases lxl_app P (by have := (g4 y h).1.1.1; omega) z with z | ⟨a, r, z1, z2⟩
                      · exact Or.inl z
                      · exact Or.inr ⟨a, r, z1, by omega⟩
                    · exact ⟨h1, Or.inr (lxl_of P (Or.inr ⟨v, r, by simpa using h3, by omega⟩))⟩
                  · rw [z4 y, g6 y]
                    constructor
                    · rintro ((h | ⟨h1, h2, a, r, h3, h4⟩) | ⟨h1, h2, r, h3⟩)
                      · exact Or.inl h
                      · exact Or.inr ⟨h1, h2, a, r, h3, by omega⟩
                      · exact Or.inr ⟨h1, h2, v, r, by simpa using h3, by omega⟩
                    · rintro (h | ⟨h1, h2, a, r, h3, h4⟩)
                      · exact Or.inl (Or.inl h)
                      · by_cases e : a = v
                        · subst e
                          exact Or.inr ⟨h1, h2, r, by rw [h3]; simp⟩
                        · exact Or.inl (Or.inr ⟨h1, h2, a, r, h3, by omega⟩)
                · exact ihq (v + 1) F1 σ' (by omega) (fr_trans g1' z1) (htP _ z2) (Or.inl z3)
          refine vX11_giveBase_124 (pk_lt l v (fun h => by omega) (fun _ => pk_lt may v (fun h => by omega) (fun _ => ⟨pk_in P.length 32 (by omega), pk_in P.length 32 (by omega), ?_⟩)))
          rw [nI_clamp (n := P.length) (by omega), nI_1, nI_1, n_sub hvl (by omega)]
          have sd1 := sides v
          by_cases h : 0 < w P.length
          · rw [if_pos h] at hmay
            rw [if_pos h, if_pos h] at sd1
            have hnl : ¬ gA τ 23 P.length ≤ 0 := by rw [i_le, wτ.1, l_0]; omega
            refine ⟨fun z => absurd z hnl, fun _ => ⟨pk_in P.length 32 (by omega), fun z => absurd z hnl, fun _ => ⟨pk_in P.length 32 (by omega), ?_⟩⟩⟩
            rw [n_sub (a := ls) (by omega) (by omega)]
            exact go (ls - v) rs (by omega) (by omega)
          · rw [if_neg h] at hmay
            rw [if_neg h, if_neg h] at sd1
            have hnl : gA τ 23 P.length ≤ 0 := by rw [i_le, wτ.1, l_0]; omega
            refine ⟨fun _ => ⟨pk_in P.length 32 (by omega), fun _ => ⟨pk_in P.length 32 (by omega), ?_⟩, fun z => absurd hnl z⟩, fun z => absurd hnl z⟩
            rw [n_sub (a := rs) (by omega) (by omega)]
            exact go ls (rs - v) (by omega) (by omega)
      have start := loop (min l may + 1) 0 F σ (by omega) fr_rfl ht (Or.inr ⟨hm, fun y hy => ⟨(hF1 y hy).1, (hF1 y hy).2.imp id fun z => lxl_of P (Or.inl z)⟩, hF2, fun y => ⟨Or.inl, fun h => by
        rcases h with h | ⟨_, _, _, _, _, h⟩
        · exact h
        · omega⟩⟩)
      refine vX11_giveBase ⟨fun _ => ⟨fun _ => ⟨pk_in P.length 32 (by omega), ?_⟩, fun z => ?_⟩, fun z => absurd hm.1 z⟩
      · rw [nI_clamp (n := P.length) (by omega)]
        by_cases h : 0 < w P.length
        · have hnl : ¬ gA σ 23 P.length ≤ 0 := by rw [i_le, w1, l_0]; omega
          rw [if_pos h] at hmay
          subst hmay
          exact ⟨fun z => absurd z hnl, fun _ => start⟩
        · have hnl : gA σ 23 P.length ≤ 0 := by rw [i_le, w1, l_0]; omega
          rw [if_neg h] at hmay
          subst hmay
          exact ⟨fun _ => start, fun z => absurd hnl z⟩
      · have := (nI_eq (by omega) (by omega)).mp z
        omega
theorem m_orderBases {Q : Int32 → am_S → Prop} {a b : Nat} (hn : n ≤ 16) (hf : mB n F σ) (ha : a < F.length) (hbF : b < F.length) (hF2 : ∀ y ∈ F, sm y ≤ 16 ∧ y.length = n) (H : ∀ v : Int32, (v ≤ 0 ↔ ¬ lxl (F.getD b []) (F.getD a [])) → Q v σ) : am_K ri am_Lm IX11_orderBases (d + 1) [.ref 0, .int (nI a), .int (nI b), .int (nI n)] σ Q := by
  obtain ⟨f1, f2, f3⟩ := hf
  have mem : ∀ i, i < F.length → F.getD i [] ∈ F := fun i hi => by
    rw [List.getD_eq_getElem?_getD, List.getElem?_eq_getElem hi]
    exact List.getElem_mem hi
  have la := hF2 _ (mem a ha)
  have lb := hF2 _ (mem b hbF)
  have loop : ∀ m k, k + m = n → (∀ i, i < k → (F.getD a []).getD i 0 = (F.getD b []).getD i 0) → am_X ri am_Lm IX11_orderBases (d + 1) 3 [some (.ref 0), some (.int (nI a)), some (.int (nI b)), some (.int (nI n)), some (.int (nI k))] [] σ Q := by
    intro m
    induction m with
    | zero =>
      intro k hk he
      refine vX11_orderBases_3 (pk_le n k (fun _ => H 0 ?_) (fun h => by omega) rfl rfl (by omega) (by omega))
      have e : F.getD a [] = F.getD b [] := getD_ext (by omega) fun i hi => he i (by omega)
      rw [e]
      exact ⟨fun _ => lxl_irrefl _, fun _ => by decide⟩
    | succ m ih =>
      intro k hk he
      have e1 : ∀ q, (32 : Int32) * nI q + nI k = nI (32 * q + k) := fun q => by rw [show (32 : Int32) = nI 32 from rfl, pk_mul, nI_add]
      refine vX11_orderBases_3 (pk_le n k (fun h => by omega) (fun _ => ?_) rfl rfl (by omega) (by omega))
      rw [e1, e1, nI_clamp (n := 32 * a + k) (by omega), nI_clamp (n := 32 * b + k) (by omega), f3 a ha k (by omega), f3 b hbF k (by omega), nI_1]
      have c1 := big_sm (F.getD a []) k
      have c2 := big_sm (F.getD b []) k
      have p1 := la.1
      have p2 := lb.1
      refine ⟨vp_in_nI (by omega) (by decide), vp_in_nI (by omega) (by decide), pk_eq ((F.getD a []).getD k 0) ((F.getD b []).getD k 0) (fun h => ih (k + 1) (by omega) fun i hi => ?_) (fun h => ⟨vp_in_nI (by omega) (by decide), vp_in_nI (by omega) (by decide), H _ ?_⟩)⟩
      · by_cases e : i = k
        · subst e
          exact h
        · exact he i (by omega)
      · rw [lxl_at (by omega) (by omega) he h, i_le, pk_sub_toInt (by omega) (by omega), l_0]
        omega
  exact vX11_orderBases (loop n 0 (by omega) fun i hi => absurd hi (Nat.not_lt_zero _))
theorem m_sortB {Q : Int32 → am_S → Prop} {sp : Int32} (σ0 : am_S) (hn16 : n ≤ 16) (hf0 : mB n F σ0) (hn : F.Nodup) (hF2 : ∀ y ∈ F, sm y ≤ 16 ∧ y.length = n)
    (H : ∀ (σ' : am_S) (K : List Nat), fr [] [25] [] [] σ0 σ' → K.length = F.length → (∀ k ∈ K, k < F.length) → K.Pairwise (fun a b => lxl (F.getD a []) (F.getD b [])) → (∀ i, i < K.length → gA σ' 25 i = nI (K.getD i 0)) → Q 1 σ') :
    ∀ (m i : Nat) (K : List Nat) (τ : am_S), i + m = F.length → K.length = i → (∀ k ∈ K, k < i) → K.Pairwise (fun a b => lxl (F.getD a []) (F.getD b [])) → (∀ p, p < i → gA τ 25 p = nI (K.getD p 0)) → fr [] [25] [] [] σ0 τ → am_X ri am_Lm IX11_findBases (d + 1 + 1) 183 [some (.ref 0), some (.int (nI n)), some (.int sp), some (.int (nI i)), none] [] τ Q := by
  have mem : ∀ i, i < F.length → F.getD i [] ∈ F := fun i hi => by
    rw [List.getD_eq_getElem?_getD, List.getElem?_eq_getElem hi]
    exact List.getElem_mem hi
  have hF16 := hf0.2.1
  intro m
  induction m with
  | zero =>
    intro i K τ hi hK hKi hS hA hfr
    have e36 : gS τ 0 36 = nI F.length := by rw [hfr.1 0 36 (by decide)]; exact hf0.1
    refine vX11_findBases_183 (pk_le F.length i (fun _ => ?_) (fun h => by omega) e36 rfl (by omega) (by omega))
    exact H τ K hfr (by omega) (fun k hk => by have := hKi k hk; omega) hS fun p hp => hA p (by omega)
  | succ m ih =>
    intro i K τ hi hK hKi hS hA hfr
    have e36 : ∀ υ, fr [] [25] [] [] σ0 υ → gS υ 0 36 = nI F.length := fun υ h => by rw [h.1 0 36 (by decide)]; exact hf0.1
    refine vX11_findBases_183 (pk_le F.length i (fun h => by omega) (fun _ => ?_) (e36 τ hfr) rfl (by omega) (by omega))
    -- the inner loop
    have inn : ∀ j υ, j ≤ i → fr [] [25] [] [] σ0 υ → (∀ p, p < j → gA υ 25 p = nI (K.getD p 0)) → (∀ p, j < p → p ≤ i → gA υ 25 p = nI (K.getD (p - 1) 0)) → (∀ a ∈ K.drop j, lxl (F.getD i []) (F.getD a [])) → am_X ri am_Lm IX11_findBases (d + 1 + 1) 194 [some (.ref 0), some (.int (nI n)), some (.int sp), some (.int (nI i)), some (.int (nI j))] [] υ Q := by
      intro j
      -- the end of the inner loop
      have fin : ∀ j υ, j ≤ i → fr [] [25] [] [] σ0 υ → (∀ p, p < j → gA υ 25 p = nI (K.getD p 0)) → (∀ p, j < p → p ≤ i → gA υ 25 p = nI (K.getD (p - 1) 0)) → (∀ a ∈ K.drop j, lxl (F.getD i []) (F.getD a [])) → (∀ a ∈ K.take j, lxl (F.getD a []) (F.getD i [])) → am_X ri am_Lm IX11_findBases (d + 1 + 1) 183 [some (.ref 0), some (.int (nI n)), some (.int sp), some (.int (nI i + (1 : Int32))), none] [] (wA υ 25 (nI j).toNatClampNeg (nI i)) Q := by
        intro j υ hj g1 g2 g3 g4 g5
        rw [nI_1, nI_clamp (by omega)]
        refine ih (i + 1) (K.take j ++ i :: K.drop j) _ (by omega) (by rw [ins_len (by omega)]; omega) (fun k hk => ?_) (so_ins (r := fun a b => lxl (F.getD a []) (F.getD b [])) (fun a b c h1 h2 => lxl_trans _ _ _ h1 h2) hS g5 g4) (fun p hp => ?_) (fr_wA g1 (by decide))
        · rcases ins_mem.mp hk with h | h
          · omega
          · have := hKi k h; omega
        · rw [List.getD_eq_getElem?_getD, ins_get (by omega) (by omega)]
          by_cases h1 : p < j
          · rw [if_pos h1, wA_ne (by omega), g2 p h1, List.getD_eq_getElem?_getD]
          · rw [if_neg h1]
            by_cases h2 : p = j
            · rw [if_pos h2, h2, wA_at]
              rfl
            · rw [if_neg h2, wA_ne (by omega), g3 p (by omega) (by omega), List.getD_eq_getElem?_getD]
      induction j with
      | zero =>
        intro υ hj g1 g2 g3 g4
        exact vX11_findBases_194 ⟨fun _ => ⟨pk_in 0 17 (by omega), fin 0 υ hj g1 g2 g3 g4 (by simp)⟩, fun z => absurd (by decide) z⟩
      | succ j ihj =>
        intro υ hj g1 g2 g3 g4
        have hmf : mB n F υ := ⟨e36 υ g1, hf0.2.1, fun i hi j hj => by rw [g1.2.1 24 (by decide)]; exact hf0.2.2 i hi j hj⟩
        have hjl : j < K.length := by omega
        have hKj : K.getD j 0 = K[j] := by rw [List.getD_eq_getElem?_getD, List.getElem?_eq_getElem hjl]; rfl
        have hKjF : K.getD j 0 < i := by rw [hKj]; exact hKi _ (List.getElem_mem hjl)
        refine vX11_findBases_194 ⟨fun z => absurd z (nI_nle (by omega) (by omega)), fun _ => ?_⟩
        rw [nI_pred, nI_clamp (n := j) (by omega), g2 j (by omega)]
        refine ⟨pk_in j 17 (by omega), m_orderBases (d := d) hn16 hmf (by omega) (by omega) hF2 fun v hv => ⟨fun z => ⟨pk_in (j + 1) 17 (by omega), ?_⟩, fun z => ⟨pk_in j 17 (by omega), pk_in (j + 1) 17 (by omega), ?_⟩⟩⟩
        · refine fin (j + 1) υ hj g1 g2 g3 g4 fun a ha => ?_
          have hnl := hv.mp z
          have hne : F.getD (K.getD j 0) [] ≠ F.getD i [] := nd_ne hn hKjF (by omega)
          have hlt : lxl (F.getD (K.getD j 0) []) (F.getD i []) := by
            rcases lxl_total (a := F.getD (K.getD j 0) []) (b := F.getD i []) (by rw [(hF2 _ (mem _ (by omega))).2, (hF2 _ (mem i (by omega))).2]) hne with h | h
            · exact h
            · exact absurd h hnl
          rw [List.take_succ, List.getElem?_eq_getElem hjl, Option.toList_some] at ha
          rcases List.mem_append.mp ha with h | h
          · obtain ⟨q, hq, e⟩ := List.getElem_of_mem h
            have hq2 : q < j := by simp at hq; omega
            rw [List.getElem_take] at e
            have := so_lt hS hq2 hjl
            rw [e, ← hKj] at this
            exact lxl_trans _ _ _ this hlt
          · simp at h
            rw [h, ← hKj]
            exact hlt
        · rw [show nI (j + 1) + (-1) = nI j from pk_m1 j, nI_clamp (n := j + 1) (by omega)]
          refine ihj _ (by omega) (fr_wA g1 (by decide)) (fun p hp => ?_) (fun p hp1 hp2 => ?_) (fun a ha => ?_)
          · rw [wA_ne (by omega)]
            exact g2 p (by omega)
          · by_cases e : p = j + 1
            · subst e
              rw [wA_at, g2 j (by omega)]
              rfl
            · rw [wA_ne (by omega)]
              exact g3 p (by omega) hp2
          · rw [List.drop_eq_getElem_cons hjl] at ha
            rcases List.mem_cons.mp ha with h | h
            · rw [h, ← hKj]
              exact Classical.byContradiction fun c => z (hv.mpr c)
            · exact g4 a h
    refine inn i τ (Nat.le_refl _) hfr hA (fun p h1 h2 => by omega) (fun a ha => ?_)
    rw [List.drop_of_length_le (by omega)] at ha
    simp at ha
end MB
