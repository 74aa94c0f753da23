/-! ===== the reference: plain, weigh, gather ===== -/
def mX (S : List (Nat × Nat)) (A : List Nat) (lo hi : Nat) (σ τ : am_S) : Prop := (∀ n k, (n, k) ∉ S → gS τ n k = gS σ n k) ∧ (∀ n, 5 ≤ n → n ∉ A → gA τ n = gA σ n) ∧ (∀ n i, n < 5 → ¬ (lo ≤ i ∧ i < hi) → gA τ n i = gA σ n i) ∧ τ.2 = σ.2
section MX
variable {σ τ υ : am_S} {S : List (Nat × Nat)} {A : List Nat} {lo hi : Nat}
theorem mX_rfl : mX S A lo hi σ σ := ⟨fun _ _ _ => rfl, fun _ _ _ => rfl, fun _ _ _ _ => rfl, rfl⟩
theorem mX_trans (h : mX S A lo hi σ τ) (g : mX S A lo hi τ υ) : mX S A lo hi σ υ := ⟨fun n k z => (g.1 n k z).trans (h.1 n k z), fun n a z => (g.2.1 n a z).trans (h.2.1 n a z), fun n i a z => (g.2.2.1 n i a z).trans (h.2.2.1 n i a z), g.2.2.2.trans h.2.2.2⟩
theorem mX_mono {S' : List (Nat × Nat)} {A' : List Nat} (h : mX S A lo hi σ τ) (a : ∀ x ∈ S, x ∈ S') (b : ∀ x ∈ A, x ∈ A') : mX S' A' lo hi σ τ := ⟨fun n k z => h.1 n k fun y => z (a _ y), fun n c z => h.2.1 n c fun y => z (b _ y), h.2.2.1, h.2.2.2⟩
theorem mX_wid {lo' hi' : Nat} (h : mX S A lo hi σ τ) (h1 : lo' ≤ lo) (h2 : hi ≤ hi') : mX S A lo' hi' σ τ := ⟨h.1, h.2.1, fun n i a z => h.2.2.1 n i a fun w => z ⟨by omega, by omega⟩, h.2.2.2⟩
theorem mX_fr {J P : List Nat} (h : fr S A J P σ τ) (hA : ∀ a ∈ A, 5 ≤ a) : mX S A lo hi σ τ := ⟨h.1, fun n _ z => h.2.1 n z, fun n i a _ => by rw [h.2.1 n fun z => by have := hA n z; omega], h.2.2.2.2.2⟩
theorem mX_cw {a b : Nat} (h : cw a b σ τ) (h1 : lo ≤ a) (h2 : b ≤ hi) : mX S A lo hi σ τ := ⟨fun n k _ => by rw [h.1], fun n a _ => h.2.1 n (by simp; omega), fun n i _ z => h.2.2.1 n i fun w => z ⟨by omega, by omega⟩, h.2.2.2.2.2.2⟩
theorem mX_wS {n k : Nat} {v : Int32} (h : mX S A lo hi σ τ) (hm : (n, k) ∈ S) : mX S A lo hi σ (wS τ n k v) := by
  refine ⟨fun a b z => ?_, h.2.1, h.2.2.1, h.2.2.2⟩
  rw [← h.1 a b z]
  exact wS_ne (fun e => z (by rw [e.1, e.2]; exact hm))
theorem mX_wA {n k : Nat} {v : Int32} (h : mX S A lo hi σ τ) (hm : n ∈ A) (h5 : 5 ≤ n) : mX S A lo hi σ (wA τ n k v) := by
  refine ⟨h.1, fun a b z => ?_, fun a i b z => ?_, h.2.2.2⟩
  · rw [← h.2.1 a b z]
    exact wA_arr (fun e => z (by rw [e]; exact hm))
  · rw [← h.2.2.1 a i b z]
    exact wA_ne (fun e => by omega)
theorem mX_seg {p : Nat} {x : Tm} (h : mX S A lo hi σ τ) (hp : p + x.length ≤ lo ∨ hi ≤ p) (g : seg σ p x) : seg τ p x := seg_move (fun a h1 h4 i hi => h.2.2.1 a _ (by omega) (by omega)) g
theorem mX_Sm {V : Sv} (h : Sm σ V) (g : mX S A lo hi σ τ) (h7 : 7 ∉ A) (hl : 640 ≤ lo) : Sm τ V := by
  intro s hs
  have e7 : gA τ 7 = gA σ 7 := g.2.1 7 (by omega) h7
  rcases h s hs with ⟨v1, v2⟩ | ⟨x, v1, v2, hc, hf, hr⟩
  · exact Or.inl ⟨v1, by rw [e7]; exact v2⟩
  · have := hf.1
    exact Or.inr ⟨x, v1, by rw [e7]; exact v2, hc, hf, mX_seg g (Or.inl (by omega)) hr⟩
theorem seg_fr {J P : List Nat} (h : fr S A J P σ τ) (hA : ∀ a ∈ A, 5 ≤ a) {p : Nat} {x : Tm} (g : seg σ p x) : seg τ p x := seg_move (fun a h1 h4 i hi => by rw [h.2.1 a (fun z => by have := hA a z; omega)]) g
/-! parts by a symbol -/
theorem m_partsBy {p k d : Nat} {x : Tm} {Q : Int32 → am_S → Prop} (hx : Can x) (hs : seg σ p x) (hp : p < 70000) (hk : k ≤ 4) (H : Q (nI (fl1 k x).length) σ) : am_K ri am_Lm IX11_partsBy (d + 1) [.ref 0, .int (nI p), .int (nI k)] σ Q := by
  obtain ⟨r1, r2, r3, r4⟩ := seg_kd (Can_wf hx) hs
  have hc := Can_kd hx
  refine vX11_partsBy ?_
  rw [nI_clamp (n := p) (by omega), r1, r3]
  refine ⟨pk_in p 70000 hp, fun e => ?_, fun e => ⟨pk_in p 70000 hp, ?_⟩⟩
  · rw [fl1_ne (fun z => e (by rw [z]))] at H
    exact H
  · rw [fl1_eq ((nI_eq (by omega) (by omega)).mp e)] at H
    exact H
theorem m_partBy {p k i d : Nat} {x y : Tm} {Q : Int32 → am_S → Prop} (hx : Can x) (hs : seg σ p x) (hp : p + x.length ≤ 70000) (hk : k ≤ 4) (hi : (fl1 k x)[i]? = some y) (H : ∀ q, p ≤ q → q + y.length ≤ p + x.length → seg σ q y → Q (nI q) σ) : am_K ri am_Lm IX11_partBy (d + 2) [.ref 0, .int (nI p), .int (nI k), .int (nI i)] σ Q := by
  have hw := Can_wf hx
  obtain ⟨r1, r2, r3, r4⟩ := seg_kd hw hs
  have hc := Can_kd hx
  have h1 := wf_pos hw
  refine vX11_partBy ?_
  rw [nI_clamp (n := p) (by omega), r1]
  refine ⟨pk_in p 70000 (by omega), fun e => ?_, fun e => ?_⟩
  · rw [fl1_ne (fun z => e (by rw [z]))] at hi
    have : y = x := by
      cases i with
      | zero => simpa using hi.symm
      | succ i => simp at hi
    subst this
    exact H p (Nat.le_refl _) (Nat.le_refl _) hs
  · rw [fl1_eq ((nI_eq (by omega) (by omega)).mp e)] at hi
    have hil := get_lt hi
    have hsy := seg_pts hw hs i y hi
    have o1 := off_s hil
    have o2 := off_le (pts x) (i + 1)
    have o3 := (wf_pts hw).2.2
    have ey : (pts x)[i] = y := by
      rw [List.getElem?_eq_getElem hil] at hi
      exact Option.some.inj hi
    rw [ey] at o1
    refine m_partAt (d := d) hw hs hp (by omega) (H _ (by omega) (by omega) hsy)
theorem m_isPlain {p k d : Nat} {x : Tm} {Q : Int32 → am_S → Prop} (hx : Can x) (hf : fits x) (hs : seg σ p x) (hp : p + x.length ≤ 70000) (hk : k = 3 ∨ k = 4) (h1 : (∀ z ∈ fl1 k x, kd z = 0 ∨ vb z = 0) → Q 1 σ) (h0 : ¬ (∀ z ∈ fl1 k x, kd z = 0 ∨ vb z = 0) → Q 0 σ) : am_K ri am_Lm IX11_isPlain (d + 3) [.ref 0, .int (nI p), .int (nI k)] σ Q := by
  have hfl := fl1_fits hx hf hk
  have hpos := wf_pos (Can_wf hx)
  have no : ∀ i : Nat, i ≤ (fl1 k x).length → ¬ (∀ z ∈ fl1 k x, kd z = 0 ∨ vb z = 0) → am_X ri am_Lm IX11_isPlain (d + 3) 5 [some (.ref 0), some (.int (nI p)), some (.int (nI k)), some (.int (0 : Int32)), some (.int (nI i)), none] [] σ Q := fun i hi h => vX11_isPlain_5 (m_partsBy (d := d + 1) hx hs (by omega) (by omega) ⟨fun _ => ⟨Or.inl rfl, h0 h⟩, fun _ => ⟨fun _ => ⟨Or.inl rfl, h0 h⟩, fun z => absurd rfl z⟩⟩)
  have loop : ∀ m i, i + m = (fl1 k x).length → (∀ z ∈ (fl1 k x).take i, kd z = 0 ∨ vb z = 0) → am_X ri am_Lm IX11_isPlain (d + 3) 5 [some (.ref 0), some (.int (nI p)), some (.int (nI k)), some (.int (1 : Int32)), some (.int (nI i)), none] [] σ Q := by
    intro m
    induction m with
    | zero =>
      intro i hi ha
      refine vX11_isPlain_5 (m_partsBy (d := d + 1) hx hs (by omega) (by omega) (pk_le (fl1 k x).length i (fun _ => ⟨Or.inr rfl, h1 ?_⟩) (fun h => by omega) rfl rfl (by omega) (by omega)))
      rw [List.take_of_length_le (by omega)] at ha
      exact ha
    | succ m ih =>
      intro i hi ha
      have hil : i < (fl1 k x).length := by omega
      refine vX11_isPlain_5 (m_partsBy (d := d + 1) hx hs (by omega) (by omega) (pk_le (fl1 k x).length i (fun h => by omega) (fun _ => ⟨fun z => absurd z (by decide), fun _ => ?_⟩) rfl rfl (by omega) (by omega)))
      refine m_partBy (d := d) hx hs hp (by omega) (List.getElem?_eq_getElem hil) fun q q1 q2 q3 => ?_
      have hmem := List.getElem_mem hil
      have hcz := (hfl.2 _ hmem).1
      have hkz := Can_kd hcz
      have hvz := vb_lt _ hcz
      have hpz := wf_pos (Can_wf hcz)
      rw [nI_clamp (n := q) (by omega), (seg_kd (Can_wf hcz) q3).1, nI_1]
      have next : kd (fl1 k x)[i] = 0 ∨ vb (fl1 k x)[i] = 0 → am_X ri am_Lm IX11_isPlain (d + 3) 5 [some (.ref 0), some (.int (nI p)), some (.int (nI k)), some (.int (1 : Int32)), some (.int (nI (i + 1))), none] [] σ Q := fun h => ih (i + 1) (by omega) fun z hz => by
        rw [take_snoc hil] at hz
        rcases List.mem_append.mp hz with w | w
        · exact ha z w
        · rw [List.mem_singleton.mp w]; exact h
      refine ⟨pk_in q 70000 (by omega), fun e => next (Or.inl ((nx_z (by omega)).mp e)), fun e => ?_⟩
      refine m_variablesIn (d := d + 1) (Can_wf hcz) (Can_nd _ hcz) q3 (by omega) ⟨fun e2 => no (i + 1) (by omega) fun c => ?_, fun e2 => next (Or.inr ((nx_z (by omega)).mp e2))⟩
      rcases c _ hmem with w | w
      · exact e ((nx_z (by omega)).mpr w)
      · exact e2 ((nx_z (by omega)).mpr w)
  exact vX11_isPlain (loop (fl1 k x).length 0 (by omega) (by simp))
end MX
/-! weigh -/
noncomputable def gds (P : List (Tm × Int)) : List Tm := tAll ((P.map (·.1)).filter (fun z => decide (kd z ≠ 0)))
def wgh (σ : am_S) (P : List (Tm × Int)) : Prop := (∀ a, a < 22 → (gA σ 27 a).toInt = net (node 0 a []) P) ∧ gS σ 0 41 = nI (gds P).length ∧ ∀ i z, (gds P)[i]? = some z → (∃ p, gA σ 28 i = nI p ∧ p + z.length ≤ 640 ∧ seg σ p z) ∧ (gA σ 29 i).toInt = net z P
section WG
variable {σ τ : am_S}
abbrev wgW (σ τ : am_S) : Prop := fr [(0, 41)] [27, 28, 29] [] [] σ τ
theorem gds_mem {P : List (Tm × Int)} {z : Tm} : z ∈ gds P ↔ z ∈ P.map (·.1) ∧ kd z ≠ 0 := by
  unfold gds
  rw [tAll_mem, List.mem_filter]
  simp
theorem gds_ss {P : List (Tm × Int)} (h : ∀ z ∈ P.map (·.1), wf z) : ss (gds P) := tAll_ss fun z hz => h z (List.mem_filter.mp hz).1
theorem gds_len (P : List (Tm × Int)) : (gds P).length ≤ P.length := by
  have h1 := tAll_len ((P.map (·.1)).filter (fun z => decide (kd z ≠ 0)))
  have h2 := List.length_filter_le (fun z => decide (kd z ≠ 0)) (P.map (·.1))
  rw [List.length_map] at h2
  unfold gds
  omega
theorem m_weigh {q d : Nat} {y : Tm} {P : List (Tm × Int)} {by1 : Int32} {b : Int} {Q : Unit → am_S → Prop} (hb : by1.toInt = b) (hb1 : -1 ≤ b ∧ b ≤ 1) (hP : ∀ r ∈ P, (-1 ≤ r.2 ∧ r.2 ≤ 1) ∧ Can r.1 ∧ fits r.1) (hl : P.length < 16) (hy : Can y) (hf : fits y) (hs : seg σ q y) (hq : q + y.length ≤ 640) (hu : wgh σ P) (H : ∀ τ, wgW σ τ → wgh τ (P ++ [(y, b)]) → Q () τ) : am_K ru am_Lm IX11_weigh (d + 41) [.ref 0, .int (nI q), .int by1] σ Q := by
  obtain ⟨u0, u1, u2⟩ := hu
  have hyw := Can_wf hy
  have hkd := seg_kd hyw hs
  have hck := Can_kd hy
  have hbd : ∀ z, -(P.length : Int) ≤ net z P ∧ net z P ≤ P.length := fun z => net_bd fun r hr => (hP r hr).1
  have hPw : ∀ z ∈ P.map (·.1), Can z ∧ fits z := fun z hz => by
    obtain ⟨r, hr, e⟩ := List.mem_map.mp hz
    rw [← e]
    exact (hP r hr).2
  have hpos := wf_pos hyw
  refine vX11_weigh ?_
  rw [nI_clamp (n := q) (by omega), hkd.1, hkd.2.1, nI_clamp (n := nm y) (by omega)]
  refine ⟨pk_in q 70000 (by omega), fun hne => ?_, fun heq => ⟨pk_in q 70000 (by omega), pk_in (nm y) 22 (by omega), pk_in (nm y) 22 (by omega), ?_⟩⟩
  · -- a ground one
    have hk0 : kd y ≠ 0 := fun e => hne (by rw [e]; rfl)
    have eAll : gds (P ++ [(y, b)]) = tIns y (gds P) := by
      unfold gds
      rw [List.map_append, List.filter_append, ← tAll_snoc]
      congr 2
      simp [hk0]
    have hvar : ∀ a, a < 22 → net (node 0 a []) (P ++ [(y, b)]) = net (node 0 a []) P := fun a _ => by
      rw [net_snoc, dc_f (fun e => hk0 (by rw [e, kd_node]))]
      simp
    have hLm : ∀ z ∈ gds P, Can z ∧ fits z := fun z hz => hPw z (gds_mem.mp hz).1
    have hLs : ss (gds P) := gds_ss fun z hz => Can_wf (hPw z hz).1
    have hLl := gds_len P
    have hin : ∀ z, z ∈ gds P → z ∈ P.map (·.1) := fun z hz => (gds_mem.mp hz).1
    have hin2 : y ∈ P.map (·.1) → y ∈ gds P := fun hz => gds_mem.mpr ⟨hz, hk0⟩
    generalize gds P = L at u1 u2 eAll hLm hLs hLl hin hin2
    have hord : ∀ j (hj : j < L.length) (Q2 : Int32 → am_S → Prop), (tlt L[j] y → ∀ v : Int32, v < 0 → Q2 v σ) → (L[j] = y → Q2 0 σ) → (tlt y L[j] → ∀ v : Int32, 0 < v → Q2 v σ) → am_K ri am_Lm IX11_ordered (d + 40) [.ref 0, .int (gA σ 28 j), .int (nI q)] σ Q2 := by
      intro j hj Q2 q1 q2 q3
      obtain ⟨⟨p, p1, p2, p3⟩, _⟩ := u2 j _ (List.getElem?_eq_getElem hj)
      have hc := hLm _ (List.getElem_mem hj)
      rw [p1]
      exact m_ordered 40 L[j] y σ p q d Q2 (canF_mono hc.2.1 (canF_len _ hc.1)) hy p3 hs (by omega) (by omega) q1 q2 q3
    -- it is new
    have new : ∀ j, j ≤ L.length → (∀ z ∈ L.take j, tlt z y) → (∀ z, L[j]? = some z → tlt y z) → am_X ru am_Lm IX11_weigh (d + 41) 83 [some (.ref 0), some (.int (nI q)), some (.int by1), some (.int (nI j)), some (.int (nI L.length))] [] σ Q := by
      intro j hj h1 h3
      have hins := tIns_new h1 h3
      have hnot : y ∉ P.map (·.1) := fun hi => by
        have hyL := hin2 hi
        rw [← List.take_append_drop j L] at hyL
        rcases List.mem_append.mp hyL with w | w
        · exact tlt_irr _ (h1 y w)
        · obtain ⟨i, hi, e⟩ := List.getElem_of_mem w
          have hi2 : j + i < L.length := by simp at hi; omega
          have e2 : L[j + i] = y := by rw [← e]; simp
          have h4 := h3 L[j] (List.getElem?_eq_getElem (by omega))
          rcases Nat.eq_zero_or_pos i with q0 | q0
          · subst q0
            simp at e2
            rw [e2] at h4
            exact tlt_irr _ h4
          · have := so_lt hLs (i := j) (j := j + i) (by omega) hi2
            rw [e2] at this
            exact tlt_asym h4 this
      have hne : ∀ z ∈ L, ¬ y = z := fun z hz e => hnot (by rw [e]; exact hin z hz)
      have fin : ∀ τ, wgW σ τ → gA τ 27 = gA σ 27 → gS τ 0 41 = nI L.length → (∀ i z, i < j → L[i]? = some z → (∃ p, gA τ 28 i = nI p ∧ p + z.length ≤ 640 ∧ seg σ p z) ∧ (gA τ 29 i).toInt = net z P) → (∀ i z, j ≤ i → L[i]? = some z → (∃ p, gA τ 28 (i + 1) = nI p ∧ p + z.length ≤ 640 ∧ seg σ p z) ∧ (gA τ 29 (i + 1)).toInt = net z P) → am_X ru am_Lm IX11_weigh (d + 41) 83 [some (.ref 0), some (.int (nI q)), some (.int by1), some (.int (nI j)), some (.int (nI j))] [] τ Q := by
        intro τ g1 g0 g2 g3 g4
        refine vX11_weigh_83 (pk_le j j (fun _ => ?_) (fun h => by omega))
        rw [nI_clamp (n := j) (by omega), g2, nI_1, wA_at, Int32.zero_add]
        have g5 : wgW σ (wA (wS (wA (wA τ 28 j (nI q)) 29 j (0 : Int32)) 0 41 (nI (L.length + 1))) 29 j by1) := fr_wA (fr_wS (fr_wA (fr_wA g1 (by decide)) (by decide)) (by decide)) (by decide)
        refine ⟨pk_in j 17 (by omega), pk_in j 17 (by omega), pk_in j 17 (by omega), pk_in j 17 (by omega), H _ g5 ⟨fun a ha => ?_, ?_, fun i z hz => ?_⟩⟩
        · rw [wA_arr (by decide), gA_wS, wA_arr (by decide), wA_arr (by decide), g0, hvar a ha]
          exact u0 a ha
        · rw [gS_wA, wS_at, eAll, hins, ins_len hj]
        · rw [eAll, hins] at hz
          have hi := get_lt hz
          rw [ins_len hj] at hi
          rw [ins_get hj hi] at hz
          rw [net_snoc, wA_arr (a := 28) (by decide), gA_wS, wA_arr (a := 28) (by decide)]
          by_cases h5 : i < j
          · rw [if_pos h5] at hz
            obtain ⟨⟨p, p1, p2, p3⟩, w3⟩ := g3 i z h5 hz
            refine ⟨⟨p, by rw [wA_ne (by omega)]; exact p1, p2, seg_fr g5 (by decide) p3⟩, ?_⟩
            rw [wA_ne (by omega), gA_wS, wA_ne (by omega), wA_ne (by omega), w3, dc_f (hne z (get_mem hz))]
            simp
          · rw [if_neg h5] at hz
            by_cases h6 : i = j
            · rw [if_pos h6] at hz
              cases hz
              subst h6
              refine ⟨⟨q, wA_at _ _ _ _, hq, seg_fr g5 (by decide) hs⟩, ?_⟩
              rw [wA_at, hb, net_not hnot, dc_iff.mpr rfl]
              simp
            · rw [if_neg h6] at hz
              obtain ⟨⟨p, p1, p2, p3⟩, w3⟩ := g4 (i - 1) z (by omega) hz
              rw [show i - 1 + 1 = i by omega] at p1 w3
              refine ⟨⟨p, by rw [wA_ne (by omega)]; exact p1, p2, seg_fr g5 (by decide) p3⟩, ?_⟩
              rw [wA_ne (by omega), gA_wS, wA_ne (by omega), wA_ne (by omega), w3, dc_f (hne z (get_mem hz))]
              simp
      have loop : ∀ r m τ, m = j + r → m ≤ L.length → wgW σ τ → gA τ 27 = gA σ 27 → gS τ 0 41 = nI L.length → (∀ i z, i < m → L[i]? = some z → (∃ p, gA τ 28 i = nI p ∧ p + z.length ≤ 640 ∧ seg σ p z) ∧ (gA τ 29 i).toInt = net z P) → (∀ i z, m ≤ i → L[i]? = some z → (∃ p, gA τ 28 (i + 1) = nI p ∧ p + z.length ≤ 640 ∧ seg σ p z) ∧ (gA τ 29 (i + 1)).toInt = net z P) → am_X ru am_Lm IX11_weigh (d + 41) 83 [some (.ref 0), some (.int (nI q)), some (.int by1), some (.int (nI j)), some (.int (nI m))] [] τ Q := by
        intro r
        induction r with
        | zero =>
          intro m τ e hm g1 g0 g2 g3 g4
          obtain rfl : m = j := by omega
          exact fin τ g1 g0 g2 g3 g4
        | succ r ih =>
          intro m τ e hm g1 g0 g2 g3 g4
          obtain ⟨m', rfl⟩ : ∃ m', m = m' + 1 := ⟨m - 1, by omega⟩
          have hmL : m' < L.length := by omega
          obtain ⟨⟨p, p1, p2, p3⟩, w3⟩ := g3 m' _ (by omega) (List.getElem?_eq_getElem hmL)
          refine vX11_weigh_83 (pk_le (m' + 1) j (fun h => by omega) (fun _ => ?_))
          rw [nI_pred, pk_m1, nI_clamp (n := m') (by omega), nI_clamp (n := m' + 1) (by omega)]
          refine ⟨pk_in m' 17 (by omega), pk_in (m' + 1) 17 (by omega), pk_in m' 17 (by omega), pk_in (m' + 1) 17 (by omega), ?_⟩
          refine ih m' _ (by omega) (by omega) (fr_wA (fr_wA g1 (by decide)) (by decide)) ?_ g2 (fun i z hi hz => ?_) (fun i z hi hz => ?_)
          · rw [wA_arr (by decide), wA_arr (by decide)]; exact g0
          · rw [wA_arr (a := 28) (by decide), wA_ne (by omega), wA_ne (by omega), wA_ne (by omega)]
            exact g3 i z (by omega) hz
          · by_cases e2 : i = m'
            · subst e2
              rw [List.getElem?_eq_getElem hmL] at hz
              cases hz
              rw [wA_arr (a := 28) (by decide), wA_at, wA_at]
              exact ⟨⟨p, p1, p2, p3⟩, w3⟩
            · rw [wA_arr (a := 28) (by decide), wA_ne (by omega), wA_ne (by omega), wA_ne (by omega)]
              exact g4 i z (by omega) hz
      exact loop (L.length - j) L.length σ (by omega) (Nat.le_refl _) fr_rfl rfl u1 (fun i z _ hz => u2 i z hz) (fun i z hi hz => absurd (get_lt hz) (by omega))
    have up : ∀ m j, j + m = L.length → (∀ z ∈ L.take j, tlt z y) → am_X ru am_Lm IX11_weigh (d + 41) 27 [some (.ref 0), some (.int (nI q)), some (.int by1), some (.int (nI j)), none] [] σ Q := by
      intro m
      induction m with
      | zero =>
        intro j hj h1
        refine vX11_weigh_27 ?_
        rw [u1]
        refine pk_le L.length j (fun _ => ⟨fun _ => new j (by omega) h1 fun z hz => absurd (get_lt hz) (by omega), fun z => absurd (by rw [show j = L.length by omega]) z⟩) (fun h => by omega)
      | succ m ih =>
        intro j hj h1
        have hjl : j < L.length := by omega
        refine vX11_weigh_27 ?_
        rw [u1, nI_clamp (n := j) (by omega), nI_1]
        refine pk_le L.length j (fun h => by omega) (fun _ => ⟨pk_in j 17 (by omega), ?_⟩)
        have hjn : ¬ nI j = gS σ 0 41 := fun e => by rw [u1] at e; have := (nI_eq (by omega) (by omega)).mp e; omega
        refine hord j hjl _ (fun h v hv => ⟨fun z => absurd z (by rw [i_lt] at hv; rw [i_le]; omega), fun _ => ?_⟩) (fun h => ⟨fun _ => ⟨fun z => absurd z hjn, fun _ => ⟨pk_in j 17 (by omega), ?_⟩⟩, fun z => absurd (by decide) z⟩) (fun h v hv => ⟨fun _ => ⟨fun z => absurd z hjn, fun _ => ⟨pk_in j 17 (by omega), ?_⟩⟩, fun z => absurd (Int32.le_of_lt hv) z⟩)
        · refine ih (j + 1) (by omega) fun z hz => ?_
          rw [take_snoc hjl] at hz
          rcases List.mem_append.mp hz with w | w
          · exact h1 z w
          · rw [List.mem_singleton.mp w]; exact h
        · refine hord j hjl _ (fun h2 => absurd h2 (by rw [h]; exact tlt_irr _)) (fun _ => ⟨fun _ => ⟨pk_in j 17 (by omega), pk_in j 17 (by omega), ?_⟩, fun z => absurd rfl z⟩) (fun h2 => absurd h2 (by rw [h]; exact tlt_irr _))
          have hyL : y ∈ L := by rw [← h]; exact List.getElem_mem hjl
          have g5 : wgW σ (wA σ 29 j (gA σ 29 j + by1)) := fr_wA fr_rfl (by decide)
          refine H _ g5 ⟨fun a ha => ?_, ?_, fun i z hz => ?_⟩
          · rw [wA_arr (by decide), hvar a ha]
            exact u0 a ha
          · rw [gS_wA, eAll, tIns_old hLs hyL]
            exact u1
          · rw [eAll, tIns_old hLs hyL] at hz
            have hi := get_lt hz
            obtain ⟨⟨p, p1, p2, p3⟩, w3⟩ := u2 i z hz
            refine ⟨⟨p, by rw [wA_arr (by decide)]; exact p1, p2, seg_fr g5 (by decide) p3⟩, ?_⟩
            rw [net_snoc]
            have ez : L[i] = z := by
              rw [List.getElem?_eq_getElem hi] at hz
              exact Option.some.inj hz
            by_cases e : i = j
            · subst e
              have hb2 := hbd z
              rw [wA_at, t_add w3 hb (by omega), dc_iff.mpr (by rw [← ez, h]), if_pos rfl]
            · rw [wA_ne (by omega), w3, dc_f (fun e2 => ?_)]
              · simp
              · rw [← e2, ← h] at ez
                rcases Nat.lt_or_gt_of_ne e with w | w
                · have := so_lt hLs w hjl
                  rw [ez] at this
                  exact tlt_irr _ this
                · have := so_lt hLs w hi
                  rw [ez] at this
                  exact tlt_irr _ this
        · refine hord j hjl _ (fun h2 => absurd h2 (tlt_asym h)) (fun h2 => absurd h (by rw [h2]; exact tlt_irr _)) (fun _ w hw => ⟨fun z => absurd hw (by rw [z]; decide), fun _ => ?_⟩)
          rw [u1]
          exact new j (by omega) h1 fun z hz => by rw [List.getElem?_eq_getElem hjl] at hz; cases hz; exact h
    exact up L.length 0 (by omega) (by simp)
  · -- a variable
    have hk0 : kd y = 0 := (nx_z (by omega)).mp heq
    have ey := kd0_node hy hk0
    have eAll : gds (P ++ [(y, b)]) = gds P := by
      unfold gds
      rw [List.map_append, List.filter_append]
      congr 1
      simp [hk0]
    have g5 : wgW σ (wA σ 27 (nm y) (gA σ 27 (nm y) + by1)) := fr_wA fr_rfl (by decide)
    refine H _ g5 ⟨fun a ha => ?_, ?_, fun i z hz => ?_⟩
    · rw [net_snoc]
      by_cases e : a = nm y
      · subst e
        have hb2 := hbd (node 0 (nm y) [])
        rw [wA_at, t_add (u0 _ ha) hb (by omega), dc_iff.mpr ey.1, if_pos rfl]
      · rw [wA_ne (by omega), u0 a ha, dc_f (fun e2 => e (by rw [e2, nm_node]))]
        simp
    · rw [gS_wA, eAll]
      exact u1
    · rw [eAll] at hz
      obtain ⟨⟨p, p1, p2, p3⟩, w3⟩ := u2 i z hz
      refine ⟨⟨p, by rw [wA_arr (by decide)]; exact p1, p2, seg_fr g5 (by decide) p3⟩, ?_⟩
      rw [net_snoc, wA_arr (by decide), w3, dc_f (fun e => (gds_mem.mp (get_mem hz)).2 (by rw [← e]; exact hk0))]
      simp
end WG
