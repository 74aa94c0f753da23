/-! ===== the reference: matching, its small methods ===== -/
section MSM
variable {σ τ : am_S} {ns : List Nat} {d : Nat}
/-- the names -/
def mN (ns : List Nat) (σ : am_S) : Prop := gS σ 0 17 = nI ns.length ∧ ns.length ≤ 4 ∧ (∀ a ∈ ns, a < 22) ∧ ∀ i a, ns[i]? = some a → gA σ 9 i = nI a
theorem m_nameOf {a : Nat} {Q : Int32 → am_S → Prop} (hN : mN ns σ) (ha : a < 22) (h1 : a ∈ ns → Q (nI (ixN a ns)) σ) (h0 : a ∉ ns → Q (-1) σ) : am_K ri am_Lm IX11_nameOf (d + 1) [.ref 0, .int (nI a)] σ Q := by
  obtain ⟨n1, n2, n3, n4⟩ := hN
  have loop : ∀ m i, i + m = ns.length → (∀ j b, j < i → ns[j]? = some b → b ≠ a) → am_X ri am_Lm IX11_nameOf (d + 1) 2 [some (.ref 0), some (.int (nI a)), some (.int (nI i))] [] σ Q := by
    intro m
    induction m with
    | zero =>
      intro i hi hn
      refine vX11_nameOf_2 (pk_le ns.length i (fun _ => h0 fun hm => ?_) (fun h => by omega) n1 rfl (by omega) (by omega))
      obtain ⟨j, hj, e⟩ := List.getElem_of_mem hm
      exact hn j _ (by omega) (List.getElem?_eq_getElem hj) e
    | succ m ih =>
      intro i hi hn
      have hil : i < ns.length := by omega
      have hg := List.getElem?_eq_getElem hil
      have hb := n3 _ (List.getElem_mem hil)
      refine vX11_nameOf_2 (pk_le ns.length i (fun h => by omega) (fun _ => ⟨pk_in i 4 (by omega), ?_⟩) n1 rfl (by omega) (by omega))
      rw [nI_clamp (n := i) (by omega), n4 i _ hg, nI_1]
      refine ⟨fun hne => ih (i + 1) (by omega) fun j b hj hjb => ?_, fun he => ?_⟩
      · by_cases e : j = i
        · subst e
          rw [hg] at hjb
          cases hjb
          exact fun z => hne (by rw [z])
        · exact hn j b (by omega) hjb
      · have e : ns[i] = a := (nI_eq (by omega) (by omega)).mp he
        have hm : a ∈ ns := by rw [← e]; exact List.getElem_mem hil
        have key : ∀ (l : List Nat) (i : Nat), l[i]? = some a → (∀ j b, j < i → l[j]? = some b → b ≠ a) → ixN a l = i := by
          intro l
          induction l with
          | nil => intro i h; simp at h
          | cons b l ihl =>
            intro i h hn2
            simp only [ixN]
            cases i with
            | zero =>
              simp at h
              rw [if_pos h]
            | succ i =>
              have hb := hn2 0 b (by omega) rfl
              rw [if_neg hb, ihl i (by simpa using h) fun j c hj hc => hn2 (j + 1) c (by omega) (by simpa using hc)]
        have := h1 hm
        rw [key ns i (by rw [hg, e]) hn] at this
        exact this
  exact vX11_nameOf (loop ns.length 0 (by omega) fun j b hj => absurd hj (Nat.not_lt_zero _))
theorem m_matcherAt {i k : Nat} {Q : Int32 → am_S → Prop} (H : Q (nI (640 + 40 * (4 * i + k))) σ) : am_K ri am_Lm IX11_matcherAt (d + 1) [.ref 0, .int (nI i), .int (nI k)] σ Q := by
  refine vX11_matcherAt ?_
  rw [show (640 : Int32) = nI 640 from rfl, show (40 : Int32) = nI 40 from rfl, show (4 : Int32) = nI 4 from rfl, pk_mul, nI_add, pk_mul, nI_add]
  exact H
theorem m_bit {a k : Nat} (ha : a < 2 ^ 31) (hk : k < 32) : ((nI a >>> (nI k &&& 31)) &&& (1 : Int32)) = 1 ↔ a.testBit k = true := by
  rw [nx_tb ha hk, show (1 : Int32) = nI 1 from rfl, nI_eq (by omega) (by omega), tb_iff]
/-- two parts of a term, compared -/
theorem m_ord2 {t i j : Nat} {Y : Tm} {Q : Int32 → am_S → Prop} (hY : Can Y) (hf : fits Y) (hs : seg σ t Y) (ht : t + Y.length ≤ 70000) (hi : i < (pts Y).length) (hj : j < (pts Y).length) (h1 : (pts Y)[i]? = (pts Y)[j]? → Q 0 σ) (h0 : (pts Y)[i]? ≠ (pts Y)[j]? → ∀ v : Int32, ¬ v = 0 → Q v σ) : am_K ri am_Lm IX11_partAt (d + 40) [.ref 0, .int (nI t), .int (nI i)] σ (fun r1 σ1 => am_K ri am_Lm IX11_partAt (d + 40) [.ref 0, .int (nI t), .int (nI j)] σ1 (fun r2 σ2 => am_K ri am_Lm IX11_ordered (d + 40) [.ref 0, .int r1, .int r2] σ2 Q)) := by
  have hw := Can_wf hY
  have hcp := (Can_pts hY).2.2
  have hfp := (fits_pts hY hf).2
  have o1 := off_s hi
  have o2 := off_le (pts Y) (i + 1)
  have o3 := off_s hj
  have o4 := off_le (pts Y) (j + 1)
  have o5 := (wf_pts hw).2.2
  refine m_partAt (d := d + 39) hw hs ht (by omega) (m_partAt (d := d + 39) hw hs ht (by omega) ?_)
  have s1 := seg_pts hw hs i _ (List.getElem?_eq_getElem hi)
  have s2 := seg_pts hw hs j _ (List.getElem?_eq_getElem hj)
  have c1 := hcp _ (List.getElem_mem hi)
  have c2 := hcp _ (List.getElem_mem hj)
  rw [List.getElem?_eq_getElem hi, List.getElem?_eq_getElem hj] at h1 h0
  refine m_ordered 40 _ _ σ _ _ d Q (canF_mono (hfp _ (List.getElem_mem hi)).1 (canF_len _ c1)) c2 s1 s2 (by omega) (by omega) (fun h v hv => h0 (fun e => ?_) v (fun e => ?_)) (fun h => h1 (by rw [h])) (fun h v hv => h0 (fun e => ?_) v (fun e => ?_))
  · rw [Option.some.inj e] at h; exact tlt_irr _ h
  · rw [e] at hv; exact absurd hv (by decide)
  · rw [Option.some.inj e] at h; exact tlt_irr _ h
  · rw [e] at hv; exact absurd hv (by decide)
theorem m_isFirst {t i m : Nat} {Y : Tm} {Q : Int32 → am_S → Prop} (hY : Can Y) (hf : fits Y) (hs : seg σ t Y) (ht : t + Y.length ≤ 70000) (hi : i < (pts Y).length) (hm : m < 2 ^ 16) (h1 : (i = 0 ∨ m.testBit (i - 1) = true ∨ (pts Y)[i - 1]? ≠ (pts Y)[i]?) → Q 1 σ) (h0 : ¬ (i = 0 ∨ m.testBit (i - 1) = true ∨ (pts Y)[i - 1]? ≠ (pts Y)[i]?) → Q 0 σ) : am_K ri am_Lm IX11_isFirst (d + 41) [.ref 0, .int (nI t), .int (nI i), .int (nI m)] σ Q := by
  have hp8 := (fits_pts hY hf).1
  refine vX11_isFirst ⟨fun e => h1 (Or.inl ((nx_z (by omega)).mp e)), fun e => ?_⟩
  have hi0 : i ≠ 0 := fun z => e (by rw [z]; rfl)
  rw [show nI i - 1 = nI (i - 1) from by rw [show i = (i - 1) + 1 by omega]; exact nI_pred _, m_bit (by omega) (by omega)]
  refine ⟨fun h => h1 (Or.inr (Or.inl h)), fun h => ?_⟩
  refine m_ord2 (d := d) hY hf hs ht (by omega) hi (fun he => ⟨fun _ => h0 ?_, fun z => absurd rfl z⟩) (fun he v hv => ⟨fun z => absurd z hv, fun _ => h1 (Or.inr (Or.inr he))⟩)
  rintro (z | z | z)
  · exact hi0 z
  · exact h z
  · exact z he
theorem m_isLow {t s m : Nat} {Y : Tm} {Q : Int32 → am_S → Prop} (hY : Can Y) (hf : fits Y) (hs : seg σ t Y) (ht : t + Y.length ≤ 70000) (hm : m < 2 ^ 16) (hs16 : s < 2 ^ 16) (h1 : lowS (pts Y) s m → Q 1 σ) (h0 : ¬ lowS (pts Y) s m → Q 0 σ) : am_K ri am_Lm IX11_isLow (d + 41) [.ref 0, .int (nI t), .int (nI s), .int (nI m)] σ Q := by
  have hp8 := (fits_pts hY hf).1
  have hw := Can_wf hY
  have hpos := wf_pos hw
  have e3 := (seg_kd hw hs).2.2.1
  have vt : vp_in (nI t) 70000 := pk_in t 70000 (by omega)
  have no : ∀ i : Int32, ¬ lowS (pts Y) s m → am_X ri am_Lm IX11_isLow (d + 41) 6 [some (.ref 0), some (.int (nI t)), some (.int (nI s)), some (.int (nI m)), some (.int (0 : Int32)), some (.int i), none, none] [] σ Q := fun i h => vX11_isLow_6 ⟨vt, fun _ => ⟨Or.inl rfl, h0 h⟩, fun _ => ⟨fun _ => ⟨Or.inl rfl, h0 h⟩, fun z => absurd rfl z⟩⟩
  have loop : ∀ q i, (i + q = (pts Y).length ∨ (q = 0 ∧ (pts Y).length ≤ i)) → 1 ≤ i → i ≤ 9 → (∀ j, 1 ≤ j → j < i → j < (pts Y).length → s.testBit j = true → (s.testBit (j - 1) = true ∨ m.testBit (j - 1) = true ∨ (pts Y)[j - 1]? ≠ (pts Y)[j]?)) → am_X ri am_Lm IX11_isLow (d + 41) 6 [some (.ref 0), some (.int (nI t)), some (.int (nI s)), some (.int (nI m)), some (.int (1 : Int32)), some (.int (nI i)), none, none] [] σ Q := by
    intro q
    induction q with
    | zero =>
      intro i hi h1i hi9 ha
      refine vX11_isLow_6 ⟨vt, ?_⟩
      rw [nI_clamp (n := t) (by omega), e3]
      exact pk_le (pts Y).length i (fun _ => ⟨Or.inr rfl, h1 fun j j1 j2 => ha j j1 (by omega) j2⟩) (fun h => by omega)
    | succ q ih =>
      intro i hi h1i hi9 ha
      have hil : i < (pts Y).length := by omega
      refine vX11_isLow_6 ⟨vt, ?_⟩
      rw [nI_clamp (n := t) (by omega), e3, show nI i - 1 = nI (i - 1) from by rw [show i = (i - 1) + 1 by omega]; exact nI_pred _, nI_1, m_bit (by omega) (by omega), nx_tb0 (by omega) (by omega), nx_tb0 (by omega) (by omega)]
      have next : (s.testBit i = true → (s.testBit (i - 1) = true ∨ m.testBit (i - 1) = true ∨ (pts Y)[i - 1]? ≠ (pts Y)[i]?)) → am_X ri am_Lm IX11_isLow (d + 41) 6 [some (.ref 0), some (.int (nI t)), some (.int (nI s)), some (.int (nI m)), some (.int (1 : Int32)), some (.int (nI (i + 1))), none, none] [] σ Q := fun hh => ih (i + 1) (by omega) (by omega) (by omega) fun j j1 j2 j3 j4 => by
        by_cases e : j = i
        · subst e; exact hh j4
        · exact ha j j1 (by omega) j3 j4
      have via : ∀ l6 : Int32, (s.testBit i = true → (s.testBit (i - 1) = true ∨ m.testBit (i - 1) = true ∨ (pts Y)[i - 1]? ≠ (pts Y)[i]?)) → am_X ri am_Lm IX11_isLow (d + 41) 65 [some (.ref 0), some (.int (nI t)), some (.int (nI s)), some (.int (nI m)), some (.int (1 : Int32)), some (.int (nI i)), some (.int l6), none] [] σ Q := fun l6 hh => vX11_isLow_65 (by rw [nI_1]; exact ⟨fun _ => next hh, fun _ => next hh⟩)
      refine pk_le (pts Y).length i (fun h => by omega) (fun _ => ⟨fun z => absurd z (by decide), fun _ => ⟨fun hns => ?_, fun hts => ?_⟩⟩)
      · have hh : s.testBit i = true → (s.testBit (i - 1) = true ∨ m.testBit (i - 1) = true ∨ (pts Y)[i - 1]? ≠ (pts Y)[i]?) := fun z => absurd z hns
        exact ⟨fun _ => via _ hh, fun _ => ⟨fun _ => via _ hh, fun _ => next hh⟩⟩
      · refine ⟨fun z => via _ fun _ => Or.inl (by simpa using z), fun z => ⟨fun z2 => via _ fun _ => Or.inr (Or.inl (by simpa using z2)), fun z2 => ?_⟩⟩
        refine m_ord2 (d := d) hY hf hs ht (by omega) hil (fun he => ⟨fun _ => no _ fun c => ?_, fun z => absurd rfl z⟩) (fun he v hv => ⟨fun z => absurd z hv, fun _ => next fun _ => Or.inr (Or.inr he)⟩)
        rcases c i h1i hil hts with w | w | w
        · rw [z] at w; cases w
        · rw [z2] at w; cases w
        · exact w he
  exact vX11_isLow (loop ((pts Y).length - 1) 1 (by omega) (Nat.le_refl _) (by omega) fun j j1 j2 => by omega)
/-- the parts of a value are taken out -/
theorem m_without {t m p k : Nat} {Y y : Tm} {Q : Int32 → am_S → Prop} (hY : Can Y) (hf : fits Y) (hs : seg σ t Y) (ht : t + Y.length ≤ 70000) (hk : kd Y = k) (hm : m < 2 ^ (pts Y).length) (hy : Can y) (hfy : fits y) (hsy : seg σ p y) (hp : p + y.length ≤ 70000)
    (h1 : ∀ m', m' < 2 ^ (pts Y).length → (unm (pts Y) m).Perm (fl1 k y ++ unm (pts Y) m') → Q (nI m') σ) (h0 : (∀ R, ¬ (unm (pts Y) m).Perm (fl1 k y ++ R)) → Q (-1) σ) : am_K ri am_Lm IX11_without (d + 41) [.ref 0, .int (nI t), .int (nI m), .int (nI p)] σ Q := by
  have hp8 := (fits_pts hY hf).1
  have hw := Can_wf hY
  have hwy := Can_wf hy
  have hpos := wf_pos hw
  have hposy := wf_pos hwy
  obtain ⟨y1, y2, y3, y4⟩ := seg_kd hw hs
  obtain ⟨z1, z2, z3, z4⟩ := seg_kd hwy hsy
  have ck := Can_kd hY
  have cky := Can_kd hy
  have hp8y := (fits_pts hy hfy).1
  have hcp := (Can_pts hY).2.2
  have hfp := (fits_pts hY hf).2
  have vt : vp_in (nI t) 70000 := pk_in t 70000 (by omega)
  have p256 : 2 ^ (pts Y).length ≤ 2 ^ 8 := Nat.pow_le_pow_right (by decide) hp8
  have hcW : ∀ z ∈ fl1 k y, Can z ∧ fits z := fun z hz => by
    by_cases e : kd y = k
    · rw [fl1_eq e] at hz
      exact ⟨(Can_pts hy).2.2 z hz, (fits_pts hy hfy).2 z hz⟩
    · rw [fl1_ne e] at hz
      rw [List.mem_singleton.mp hz]; exact ⟨hy, hfy⟩
  have hW8 : (fl1 k y).length ≤ 8 := by
    by_cases e : kd y = k
    · rw [fl1_eq e]; exact hp8y
    · rw [fl1_ne e]; simp
  -- one part is looked for
  have find : ∀ (l5 : Int32) (W0 : List Tm) (w : Tm) (W1 : List Tm) (u q : Nat), fl1 k y = W0 ++ w :: W1 → u < 2 ^ (pts Y).length → (unm (pts Y) m).Perm (W0 ++ unm (pts Y) u) → seg σ q w → q + w.length ≤ 70000 → (∀ u', u' < 2 ^ (pts Y).length → (unm (pts Y) m).Perm ((W0 ++ [w]) ++ unm (pts Y) u') → am_X ri am_Lm IX11_without (d + 41) 45 [some (.ref 0), some (.int (nI t)), some (.int (nI m)), some (.int (nI p)), some (.int (nI u')), some (.int l5), some (.int (nI (fl1 k y).length)), some (.int (nI (W0.length + 1))), none, none] [] σ Q) → ∀ r i, i + r = (pts Y).length → (∀ j, j < i → u.testBit j = true ∨ (pts Y)[j]? ≠ some w) → am_X ri am_Lm IX11_without (d + 41) 73 [some (.ref 0), some (.int (nI t)), some (.int (nI m)), some (.int (nI p)), some (.int (nI u)), some (.int l5), some (.int (nI (fl1 k y).length)), some (.int (nI W0.length)), some (.int (nI q)), some (.int (nI i))] [] σ Q := by
    intro l5 W0 w W1 u q hsp hu hperm sq hq next r
    have hW0 : W0.length ≤ 8 := by
      have := congrArg List.length hsp
      simp at this
      omega
    induction r with
    | zero =>
      intro i hi ha
      obtain rfl : i = (pts Y).length := by omega
      refine vX11_without_73 ⟨vt, ?_⟩
      rw [nI_clamp (n := t) (by omega), y3]
      refine pk_le (pts Y).length (pts Y).length (fun _ => ⟨vt, fun z => absurd rfl z, fun _ => h0 fun R hR => ?_⟩) (fun h => by omega)
      rw [hsp, List.append_assoc] at hR
      have := (List.perm_append_left_iff W0).mp (hperm.symm.trans hR)
      obtain ⟨j, j1, j2⟩ := unm_mem.mp (this.mem_iff.mpr (by simp) : w ∈ unm (pts Y) u)
      rcases ha j (get_lt j1) with c | c
      · rw [j2] at c; cases c
      · exact c j1
    | succ r ih =>
      intro i hi ha
      have hil : i < (pts Y).length := by omega
      have on : (u.testBit i = true ∨ (pts Y)[i]? ≠ some w) → am_X ri am_Lm IX11_without (d + 41) 73 [some (.ref 0), some (.int (nI t)), some (.int (nI m)), some (.int (nI p)), some (.int (nI u)), some (.int l5), some (.int (nI (fl1 k y).length)), some (.int (nI W0.length)), some (.int (nI q)), some (.int (nI (i + 1)))] [] σ Q := fun hh => ih (i + 1) (by omega) fun j hj => by
        by_cases e : j = i
        · subst e; exact hh
        · exact ha j (by omega)
      refine vX11_without_73 ⟨vt, ?_⟩
      rw [nI_clamp (n := t) (by omega), y3, nI_1 i, m_bit (by omega) (by omega)]
      refine pk_le (pts Y).length i (fun h => by omega) (fun _ => ⟨fun hb => on (Or.inl hb), fun hb => ?_⟩)
      have o1 := off_s hil
      have o2 := off_le (pts Y) (i + 1)
      have o3 := (wf_pts hw).2.2
      refine m_partAt (d := d + 39) hw hs ht (by omega) ?_
      have s1 := seg_pts hw hs i _ (List.getElem?_eq_getElem hil)
      have c1 := hcp _ (List.getElem_mem hil)
      have c2 := hcW w (by rw [hsp]; simp)
      have bad : (pts Y)[i] ≠ w → ∀ v : Int32, ¬ v = 0 → (v = 0 → vp_in (nI t) 70000 ∧ (¬ nI i = gA σ 3 t → am_X ri am_Lm IX11_without (d + 41) 45 [some (.ref 0), some (.int (nI t)), some (.int (nI m)), some (.int (nI p)), some (.int (nI u ||| ((1 : Int32) <<< (nI i &&& 31)))), some (.int l5), some (.int (nI (fl1 k y).length)), some (.int (nI W0.length + (1 : Int32))), none, none] [] σ Q) ∧ (nI i = gA σ 3 t → Q (-1) σ)) ∧ (¬ v = 0 → am_X ri am_Lm IX11_without (d + 41) 73 [some (.ref 0), some (.int (nI t)), some (.int (nI m)), some (.int (nI p)), some (.int (nI u)), some (.int l5), some (.int (nI (fl1 k y).length)), some (.int (nI W0.length)), some (.int (nI q)), some (.int (nI (i + 1)))] [] σ Q) := fun hne v hv => ⟨fun z => absurd z hv, fun _ => on (Or.inr (by rw [List.getElem?_eq_getElem hil]; exact fun z => hne (Option.some.inj z)))⟩
      refine m_ordered 40 _ w σ _ q d _ (canF_mono (hfp _ (List.getElem_mem hil)).1 (canF_len _ c1)) c2.1 s1 sq (by omega) hq (fun h v hv => bad (fun e => ?_) v (fun e => ?_)) (fun h => ⟨fun _ => ⟨vt, fun _ => ?_, fun z => ?_⟩, fun z => absurd rfl z⟩) (fun h v hv => bad (fun e => ?_) v (fun e => ?_))
      · rw [e] at h; exact tlt_irr _ h
      · rw [e] at hv; exact absurd hv (by decide)
      · rw [nx_1shl (by omega), nx_or, nI_1]
        refine next (u ||| 2 ^ i) (or_lt hu (Nat.pow_lt_pow_right (by decide) hil)) ?_
        have hbf : u.testBit i = false := by simpa using hb
        have := unm_one hil hbf
        rw [h] at this
        rw [List.append_assoc]
        exact hperm.trans ((List.perm_append_left_iff W0).mpr this)
      · rw [y3] at z
        have := (nI_eq (by omega) (by omega)).mp z
        omega
      · rw [e] at h; exact tlt_irr _ h
      · rw [e] at hv; exact absurd hv (by decide)
  have out : ∀ (l5 : Int32), (l5 = 0 ↔ kd y = k) → ∀ W1 W0 u, fl1 k y = W0 ++ W1 → u < 2 ^ (pts Y).length → (unm (pts Y) m).Perm (W0 ++ unm (pts Y) u) → am_X ri am_Lm IX11_without (d + 41) 45 [some (.ref 0), some (.int (nI t)), some (.int (nI m)), some (.int (nI p)), some (.int (nI u)), some (.int l5), some (.int (nI (fl1 k y).length)), some (.int (nI W0.length)), none, none] [] σ Q := by
    intro l5 hl5 W1
    induction W1 with
    | nil =>
      intro W0 u hsp hu hperm
      rw [List.append_nil] at hsp
      refine vX11_without_45 (pk_le (fl1 k y).length W0.length (fun _ => h1 u hu (by rw [hsp]; exact hperm)) (fun h => by rw [hsp] at h; omega) rfl rfl (by omega) (by rw [← hsp]; omega))
    | cons w W1 ih =>
      intro W0 u hsp hu hperm
      have hlen : (fl1 k y).length = W0.length + (W1.length + 1) := by rw [hsp]; simp
      have nx := fun u' hu' hp' => ih (W0 ++ [w]) u' (by rw [hsp]; simp) hu' hp'
      rw [List.length_append, List.length_singleton] at nx
      refine vX11_without_45 (pk_le (fl1 k y).length W0.length (fun h => by omega) (fun _ => ⟨fun hz => ?_, fun hz => ?_⟩) rfl rfl (by omega) (by omega))
      · have e := hl5.mp hz
        have hpts : fl1 k y = pts y := fl1_eq e
        have hil : W0.length < (pts y).length := by rw [← hpts]; omega
        have hg : (pts y)[W0.length]? = some w := by
          rw [← hpts, hsp, List.getElem?_append_right (Nat.le_refl _), Nat.sub_self]
          rfl
        have ew : (pts y)[W0.length] = w := by
          rw [List.getElem?_eq_getElem hil] at hg
          exact Option.some.inj hg
        have o1 := off_s hil
        have o2 := off_le (pts y) (W0.length + 1)
        have o3 := (wf_pts hwy).2.2
        rw [ew] at o1
        refine m_partAt (d := d + 39) hwy hsy hp (by omega) ?_
        exact find l5 W0 w W1 u _ hsp hu hperm (seg_pts hwy hsy _ _ hg) (by omega) nx (pts Y).length 0 (by omega) fun j hj => absurd hj (Nat.not_lt_zero _)
      · have e : kd y ≠ k := fun c => hz (hl5.mpr c)
        have hsg : fl1 k y = [y] := fl1_ne e
        rw [hsg] at hsp
        have hW0 : W0 = [] := by
          cases W0 with
          | nil => rfl
          | cons a r => simp at hsp
        subst hW0
        have hwy2 : w = y := by simp at hsp; exact hsp.1.symm
        subst hwy2
        exact find l5 [] w W1 u p (by rw [hsg]; exact hsp) hu hperm hsy hp nx (pts Y).length 0 (by omega) fun j hj => absurd hj (Nat.not_lt_zero _)
  refine vX11_without ⟨pk_in p 70000 (by omega), vt, ?_⟩
  rw [nI_clamp (n := p) (by omega), nI_clamp (n := t) (by omega), z1, y1, hk, z3]
  refine pk_eq (kd y) k (fun e => ⟨pk_in p 70000 (by omega), ?_⟩) (fun e => ?_) rfl rfl (by omega) (by omega)
  · have := out 0 ⟨fun _ => e, fun _ => rfl⟩ (fl1 k y) [] m rfl hm (List.Perm.refl _)
    rw [show (fl1 k y).length = (pts y).length by rw [fl1_eq e]] at this
    exact this
  · have := out 1 ⟨fun z => absurd z (by decide), fun z => absurd z e⟩ (fl1 k y) [] m rfl hm (List.Perm.refl _)
    rw [show (fl1 k y).length = 1 by rw [fl1_ne e]; rfl] at this
    exact this
end MSM
