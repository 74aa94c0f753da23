/-! ===== sound: arrays, new cells ===== -/
section AMA
variable {Λ : am_Lay} {I : am_I} {d pc : Nat} {ls : List (Option Value)} {st : List Value} {σ : am_S} {r0 : Option Value} {σ0 : am_S}
theorem am_upd_up (f : Nat → Int32) (k : Nat) (x : Int32) : upd f k x = va_up f k x := rfl
theorem am_updL_up (f : Nat → Int64) (k : Nat) (x : Int64) : vp_updL f k x = va_up f k x := rfl
theorem am_iald {n len : Nat} {j : Int32} {r : List Value} (hd : decode (am_code I) pc = .ok (.iaload, 1)) (hx : am_fa Λ n = some (0, len)) (hin : vp_in j len) (h : am_E Λ I d (pc + 1) ls (.int (gA σ n j.toNatClampNeg) :: r) σ r0 σ0) : am_E Λ I d pc ls (.int j :: .ref n :: r) σ r0 σ0 := by
  refine ⟨h.1, fun p l e s m args below meth c g A ν0 n0 bc bs H locs ν lsA Cx Iv => ?_⟩
  obtain ⟨hn, hx⟩ := am_fa_spec hx
  have he := am_wl_get (Λ := Λ) (g := g) (ν := ν) (Nat.lt_of_lt_of_le hn Iv.2.2.2.1.2.1)
  rw [am_ent_arr hn hx] at he
  refine va_iald Cx.1 Cx.2.1 Cx.2.2.2.2.2.2.2.2.1.1 Iv.1 n 0 he rfl hin hd ?_
  exact h.2 p l e s m args below meth c g A ν0 n0 bc bs H locs ν lsA Cx (am_iv_st Iv fun v hv => by
    rcases List.mem_cons.mp hv with rfl | hv
    · trivial
    · exact Iv.2.2.2.2.1.2 v (List.mem_cons_of_mem _ (List.mem_cons_of_mem _ hv)))
theorem am_bald {n len t : Nat} {j : Int32} {r : List Value} (ht : t = 2 ∨ t = 3) (hd : decode (am_code I) pc = .ok (.baload, 1)) (hx : am_fa Λ n = some (t, len)) (hin : vp_in j len) (h : am_E Λ I d (pc + 1) ls (.int (gA σ n j.toNatClampNeg) :: r) σ r0 σ0) : am_E Λ I d pc ls (.int j :: .ref n :: r) σ r0 σ0 := by
  refine ⟨h.1, fun p l e s m args below meth c g A ν0 n0 bc bs H locs ν lsA Cx Iv => ?_⟩
  obtain ⟨hn, hx⟩ := am_fa_spec hx
  have he := am_wl_get (Λ := Λ) (g := g) (ν := ν) (Nat.lt_of_lt_of_le hn Iv.2.2.2.1.2.1)
  rw [am_ent_arr hn hx] at he
  have k0 := h.2 p l e s m args below meth c g A ν0 n0 bc bs H locs ν lsA Cx (am_iv_st Iv fun v hv => by
    rcases List.mem_cons.mp hv with rfl | hv
    · trivial
    · exact Iv.2.2.2.2.1.2 v (List.mem_cons_of_mem _ (List.mem_cons_of_mem _ hv)))
  rcases ht with rfl | rfl
  · exact va_bald Cx.1 Cx.2.1 Cx.2.2.2.2.2.2.2.2.1.1 Iv.1 n 2 he rfl hin hd k0
  · exact va_zald Cx.1 Cx.2.1 Cx.2.2.2.2.2.2.2.2.1.1 Iv.1 n 3 he rfl hin hd k0
theorem am_lald {n len : Nat} {j : Int32} {r : List Value} (hd : decode (am_code I) pc = .ok (.laload, 1)) (hx : am_fa Λ n = some (1, len)) (hin : vp_in j len) (h : am_E Λ I d (pc + 1) ls (.long (gJ σ n j.toNatClampNeg) :: r) σ r0 σ0) : am_E Λ I d pc ls (.int j :: .ref n :: r) σ r0 σ0 := by
  refine ⟨h.1, fun p l e s m args below meth c g A ν0 n0 bc bs H locs ν lsA Cx Iv => ?_⟩
  obtain ⟨hn, hx⟩ := am_fa_spec hx
  have he := am_wl_get (Λ := Λ) (g := g) (ν := ν) (Nat.lt_of_lt_of_le hn Iv.2.2.2.1.2.1)
  rw [am_ent_arr hn hx] at he
  refine va_lald Cx.1 Cx.2.1 Cx.2.2.2.2.2.2.2.2.1.1 Iv.1 n 1 he rfl hin hd ?_
  exact h.2 p l e s m args below meth c g A ν0 n0 bc bs H locs ν lsA Cx (am_iv_st Iv fun v hv => by
    rcases List.mem_cons.mp hv with rfl | hv
    · trivial
    · exact Iv.2.2.2.2.1.2 v (List.mem_cons_of_mem _ (List.mem_cons_of_mem _ hv)))
theorem am_iast {n len : Nat} {j x : Int32} {r : List Value} (hd : decode (am_code I) pc = .ok (.iastore, 1)) (hx : am_fa Λ n = some (0, len)) (hin : vp_in j len) (h : am_E Λ I d (pc + 1) ls r (wA σ n j.toNatClampNeg x) r0 σ0) : am_E Λ I d pc ls (.int x :: .int j :: .ref n :: r) σ r0 σ0 := by
  refine ⟨h.1, fun p l e s m args below meth c g A ν0 n0 bc bs H locs ν lsA Cx Iv => ?_⟩
  obtain ⟨hn, hx⟩ := am_fa_spec hx
  have he := am_wl_get (Λ := Λ) (g := g) (ν := ν) (Nat.lt_of_lt_of_le hn Iv.2.2.2.1.2.1)
  rw [am_ent_arr hn hx] at he
  refine va_iast Cx.1 Cx.2.1 Cx.2.2.2.2.2.2.2.2.1.1 Iv.1 Iv.2.1 Iv.2.2.1 n 0 he rfl hin hd fun H1 locs1 hP hD hS => ?_
  refine h.2 p l e s m args below meth c g A ν0 n0 bc bs H1 locs1 ν lsA Cx (am_iv_set (n := n) (τ := wA σ n j.toNatClampNeg x) Iv rfl rfl rfl ?_ (fun q hq => am_ent_congr rfl (am_u2_ne _ _ _ hq) rfl rfl rfl rfl rfl) Iv.2.2.2.1 hP hD hS fun w hw => Iv.2.2.2.2.1.2 w (List.mem_cons_of_mem _ (List.mem_cons_of_mem _ (List.mem_cons_of_mem _ hw))))
  rw [am_ent_arr hn hx, am_upd_up, ← am_u2_self]
  rfl
theorem am_bast {n len t : Nat} {ty : FieldType} {j x : Int32} {r : List Value} (ht : t = 2 ∧ ty = .byte ∨ t = 3 ∧ ty = .boolean) (hd : decode (am_code I) pc = .ok (.bastore, 1)) (hx : am_fa Λ n = some (t, len)) (hin : vp_in j len) (h : am_E Λ I d (pc + 1) ls r (wA σ n j.toNatClampNeg (vp_nar ty x)) r0 σ0) : am_E Λ I d pc ls (.int x :: .int j :: .ref n :: r) σ r0 σ0 := by
  refine ⟨h.1, fun p l e s m args below meth c g A ν0 n0 bc bs H locs ν lsA Cx Iv => ?_⟩
  obtain ⟨hn, hx⟩ := am_fa_spec hx
  have he := am_wl_get (Λ := Λ) (g := g) (ν := ν) (Nat.lt_of_lt_of_le hn Iv.2.2.2.1.2.1)
  rw [am_ent_arr hn hx] at he
  have fin : am_ent Λ g ν (wA σ n j.toNatClampNeg (vp_nar ty x)) n = .inl (g.2.1 t, len, .inl (va_up (gA σ n) j.toNatClampNeg (vp_nar ty x))) := by
    rw [am_ent_arr hn hx, ← am_u2_self]
    rcases ht with ⟨rfl, rfl⟩ | ⟨rfl, rfl⟩ <;> rfl
  rcases ht with ⟨rfl, rfl⟩ | ⟨rfl, rfl⟩
  · refine va_bast Cx.1 Cx.2.1 Cx.2.2.2.2.2.2.2.2.1.1 Iv.1 Iv.2.1 Iv.2.2.1 n 2 he rfl hin hd fun H1 locs1 hP hD hS => ?_
    exact h.2 p l e s m args below meth c g A ν0 n0 bc bs H1 locs1 ν lsA Cx (am_iv_set (n := n) (τ := wA σ n j.toNatClampNeg (vp_nar .byte x)) Iv rfl rfl rfl fin (fun q hq => am_ent_congr rfl (am_u2_ne _ _ _ hq) rfl rfl rfl rfl rfl) Iv.2.2.2.1 hP hD hS fun w hw => Iv.2.2.2.2.1.2 w (List.mem_cons_of_mem _ (List.mem_cons_of_mem _ (List.mem_cons_of_mem _ hw))))
  · refine va_zast Cx.1 Cx.2.1 Cx.2.2.2.2.2.2.2.2.1.1 Iv.1 Iv.2.1 Iv.2.2.1 n 3 he rfl hin hd fun H1 locs1 hP hD hS => ?_
    exact h.2 p l e s m args below meth c g A ν0 n0 bc bs H1 locs1 ν lsA Cx (am_iv_set (n := n) (τ := wA σ n j.toNatClampNeg (vp_nar .boolean x)) Iv rfl rfl rfl fin (fun q hq => am_ent_congr rfl (am_u2_ne _ _ _ hq) rfl rfl rfl rfl rfl) Iv.2.2.2.1 hP hD hS fun w hw => Iv.2.2.2.2.1.2 w (List.mem_cons_of_mem _ (List.mem_cons_of_mem _ (List.mem_cons_of_mem _ hw))))
theorem am_last {n len : Nat} {j : Int32} {x : Int64} {r : List Value} (hd : decode (am_code I) pc = .ok (.lastore, 1)) (hx : am_fa Λ n = some (1, len)) (hin : vp_in j len) (h : am_E Λ I d (pc + 1) ls r (wJ σ n j.toNatClampNeg x) r0 σ0) : am_E Λ I d pc ls (.long x :: .int j :: .ref n :: r) σ r0 σ0 := by
  refine ⟨h.1, fun p l e s m args below meth c g A ν0 n0 bc bs H locs ν lsA Cx Iv => ?_⟩
  obtain ⟨hn, hx⟩ := am_fa_spec hx
  have he := am_wl_get (Λ := Λ) (g := g) (ν := ν) (Nat.lt_of_lt_of_le hn Iv.2.2.2.1.2.1)
  rw [am_ent_arr hn hx] at he
  refine va_last Cx.1 Cx.2.1 Cx.2.2.2.2.2.2.2.2.1.1 Iv.1 Iv.2.1 Iv.2.2.1 n 1 he rfl hin hd fun H1 locs1 hP hD hS => ?_
  refine h.2 p l e s m args below meth c g A ν0 n0 bc bs H1 locs1 ν lsA Cx (am_iv_set (n := n) (τ := wJ σ n j.toNatClampNeg x) Iv rfl rfl rfl ?_ (fun q hq => am_ent_congr rfl rfl (am_u2_ne _ _ _ hq) rfl rfl rfl rfl) Iv.2.2.2.1 hP hD hS fun w hw => Iv.2.2.2.2.1.2 w (List.mem_cons_of_mem _ (List.mem_cons_of_mem _ (List.mem_cons_of_mem _ hw))))
  rw [am_ent_arr hn hx, am_updL_up, ← am_u2_self]
  rfl
theorem am_aald {n : Nat} {j : Int32} {r : List Value} (hd : decode (am_code I) pc = .ok (.aaload, 1)) (hR : am_isR Λ σ n) (hin : vp_in j (am_rl Λ σ n)) (h1 : gP σ n j.toNatClampNeg = none → am_E Λ I d (pc + 1) ls (.null :: r) σ r0 σ0) (h2 : ∀ t, gP σ n j.toNatClampNeg = some t → am_E Λ I d (pc + 1) ls (.ref t :: r) σ r0 σ0) : am_E Λ I d pc ls (.int j :: .ref n :: r) σ r0 σ0 := by
  refine ⟨?_, fun p l e s m args below meth c g A ν0 n0 bc bs H locs ν lsA Cx Iv => ?_⟩
  · cases hq : gP σ n j.toNatClampNeg with
    | none => exact (h1 hq).1
    | some a => exact (h2 a hq).1
  obtain ⟨hn, hx⟩ := am_isR_spec Iv.2.2.2.1.2.1 hR
  have he := am_wl_get (Λ := Λ) (g := g) (ν := ν) hn
  rw [hx] at he
  refine va_aldq Cx.1 Cx.2.1 Cx.2.2.2.2.2.2.2.2.1.1 Iv.1 n 4 he rfl hin hd ?_
  cases hq : gP σ n j.toNatClampNeg with
  | none =>
    exact (h1 hq).2 p l e s m args below meth c g A ν0 n0 bc bs H locs ν lsA Cx (am_iv_st Iv fun v hv => by
      rcases List.mem_cons.mp hv with rfl | hv
      · trivial
      · exact Iv.2.2.2.2.1.2 v (List.mem_cons_of_mem _ (List.mem_cons_of_mem _ hv)))
  | some a =>
    exact (h2 a hq).2 p l e s m args below meth c g A ν0 n0 bc bs H locs ν lsA Cx (am_iv_st Iv fun v hv => by
      rcases List.mem_cons.mp hv with rfl | hv
      · exact Or.inl (Iv.2.2.2.1.2.2.2.1 n _ a hq)
      · exact Iv.2.2.2.2.1.2 v (List.mem_cons_of_mem _ (List.mem_cons_of_mem _ hv)))
theorem am_entR {g : am_G} {ν : Nat → Nat} {n k : Nat} {o : Option Nat} (hf : Λ.1 ≤ gn σ) (hR : am_isR Λ σ n) : am_ent Λ g ν (wP σ n k o) n = .inl (g.2.1 4, am_rl Λ σ n, .inr (.inr (.inr (.inr (va_up (fun i => (gP σ n i).map ν) k (o.map ν)))))) := by
  have hR' : am_isR Λ (wP σ n k o) n := hR
  rw [(am_isR_spec (σ := wP σ n k o) hf hR').2 g ν]
  have e : (fun i => (gP (wP σ n k o) n i).map ν) = va_up (fun i => (gP σ n i).map ν) k (o.map ν) := by
    funext i
    by_cases hi : i = k
    · subst hi; simp [wP, gP, am_u2, va_up]
    · simp [wP, gP, am_u2, va_up, hi]
  rw [e]
  rfl
theorem am_clP {n k : Nat} {o : Option Nat} (hcl : am_cl Λ σ) (ho : ∀ t, o = some t → t < gn σ) : am_cl Λ (wP σ n k o) := by
  refine ⟨hcl.1, hcl.2.1, hcl.2.2.1, fun a i t ht => ?_, hcl.2.2.2.2⟩
  by_cases ha : a = n
  · subst ha
    by_cases hi : i = k
    · subst hi
      exact ho t (by simpa [wP, gP, am_u2] using ht)
    · exact hcl.2.2.2.1 a i t (by simpa [wP, gP, am_u2, hi] using ht)
  · exact hcl.2.2.2.1 a i t (by simpa [wP, gP, am_u2, ha] using ht)
theorem am_aast {n t : Nat} {j : Int32} {r : List Value} (hd : decode (am_code I) pc = .ok (.aastore, 1)) (hR : am_isR Λ σ n) (hin : vp_in j (am_rl Λ σ n)) (hT : am_isT Λ σ t) (h : am_E Λ I d (pc + 1) ls r (wP σ n j.toNatClampNeg (some t)) r0 σ0) : am_E Λ I d pc ls (.ref t :: .int j :: .ref n :: r) σ r0 σ0 := by
  refine ⟨h.1, fun p l e s m args below meth c g A ν0 n0 bc bs H locs ν lsA Cx Iv => ?_⟩
  obtain ⟨hn, hx⟩ := am_isR_spec Iv.2.2.2.1.2.1 hR
  have he := am_wl_get (Λ := Λ) (g := g) (ν := ν) hn
  rw [hx] at he
  have hev := am_wl_get (Λ := Λ) (g := g) (ν := ν) hT.2.1
  rw [am_ent_T hT] at hev
  refine va_astq (r := (RX8, TX8, 5)) Cx.1 Cx.2.1 Cx.2.2.2.2.2.2.2.2.1.1 Iv.1 Iv.2.1 Iv.2.2.1 n 4 t 7 he rfl hev rfl hin hd fun H1 locs1 hP hD hS => ?_
  exact h.2 p l e s m args below meth c g A ν0 n0 bc bs H1 locs1 ν lsA Cx (am_iv_set (n := n) (τ := wP σ n j.toNatClampNeg (some t)) Iv rfl rfl rfl (am_entR Iv.2.2.2.1.2.1 hR) (fun q hq => am_ent_congr rfl rfl rfl (am_u2_ne _ _ _ hq) rfl rfl rfl) (am_clP Iv.2.2.2.1 fun _ z => by cases z; exact hT.2.1) hP hD hS fun w hw => Iv.2.2.2.2.1.2 w (List.mem_cons_of_mem _ (List.mem_cons_of_mem _ (List.mem_cons_of_mem _ hw))))
theorem am_aastN {n : Nat} {j : Int32} {r : List Value} (hd : decode (am_code I) pc = .ok (.aastore, 1)) (hR : am_isR Λ σ n) (hin : vp_in j (am_rl Λ σ n)) (h : am_E Λ I d (pc + 1) ls r (wP σ n j.toNatClampNeg none) r0 σ0) : am_E Λ I d pc ls (.null :: .int j :: .ref n :: r) σ r0 σ0 := by
  refine ⟨h.1, fun p l e s m args below meth c g A ν0 n0 bc bs H locs ν lsA Cx Iv => ?_⟩
  obtain ⟨hn, hx⟩ := am_isR_spec Iv.2.2.2.1.2.1 hR
  have he := am_wl_get (Λ := Λ) (g := g) (ν := ν) hn
  rw [hx] at he
  refine va_astqN Cx.1 Cx.2.1 Cx.2.2.2.2.2.2.2.2.1.1 Iv.1 Iv.2.1 Iv.2.2.1 n 4 he rfl hin hd fun H1 locs1 hP hD hS => ?_
  exact h.2 p l e s m args below meth c g A ν0 n0 bc bs H1 locs1 ν lsA Cx (am_iv_set (n := n) (τ := wP σ n j.toNatClampNeg none) Iv rfl rfl rfl (am_entR Iv.2.2.2.1.2.1 hR) (fun q hq => am_ent_congr rfl rfl rfl (am_u2_ne _ _ _ hq) rfl rfl rfl) (am_clP Iv.2.2.2.1 fun _ z => by cases z) hP hD hS fun w hw => Iv.2.2.2.2.1.2 w (List.mem_cons_of_mem _ (List.mem_cons_of_mem _ (List.mem_cons_of_mem _ hw))))
theorem am_alen {n : Nat} {r : List Value} (hd : decode (am_code I) pc = .ok (.arraylength, 1)) (hA : am_isA Λ σ n) (h : am_E Λ I d (pc + 1) ls (.int (Int32.ofNat (am_rl Λ σ n)) :: r) σ r0 σ0) : am_E Λ I d pc ls (.ref n :: r) σ r0 σ0 := by
  refine ⟨h.1, fun p l e s m args below meth c g A ν0 n0 bc bs H locs ν lsA Cx Iv => ?_⟩
  obtain ⟨hn, hx⟩ := am_isA_spec Iv.2.2.2.1.2.1 hA
  obtain ⟨t, x, ty, h1, h2, h3⟩ := hx g ν
  have he := am_wl_get (Λ := Λ) (g := g) (ν := ν) hn
  rw [h1] at he
  refine va_alen Cx.1 Cx.2.1 Cx.2.2.2.2.2.2.2.2.1.1 Iv.1 n t he h3 (by rw [h2]) hd ?_
  exact h.2 p l e s m args below meth c g A ν0 n0 bc bs H locs ν lsA Cx (am_iv_st Iv fun v hv => by
    rcases List.mem_cons.mp hv with rfl | hv
    · trivial
    · exact Iv.2.2.2.2.1.2 v (List.mem_cons_of_mem _ hv))
/-- the invariant behind a new cell -/
theorem am_iv_new {g : am_G} {A : Nat → Prop} {H0 H H1 : Heap} {locs locs1 : List Loc} {ν0 : Nat → Nat} {n0 : Nat} {ν : Nat → Nat} {lsA : Array Slot} {bc bs : Nat} {τ : am_S} {q : Nat} {e : va_E} {st' : List Value} (Iv : am_Iv Λ I g A H0 H locs ν0 n0 ν lsA ls st σ bc bs)
    (hn : gn τ = gn σ + 1) (h1 : 1 ≤ gc σ) (hc1 : gc τ = gc σ - 1) (hc2 : gs τ ≤ gs σ) (he : am_ent Λ g (va_up ν (gn σ) q) τ (gn σ) = e) (ho : ∀ k, k < gn σ → am_ent Λ g (va_up ν (gn σ) q) τ k = am_ent Λ g (va_up ν (gn σ) q) σ k)
    (hcp : ∀ n i t, gP τ n i = some t → t < gn τ) (hcq : ∀ n a, gQ τ n = some a → a < gn τ)
    (hP : va_P g.1 vwCl (am_wl Λ g ν σ ++ [(q, e)]) H1) (hD : va_D A (am_wl Λ g ν σ ++ [(q, e)])) (hS : va_S A H0 H1 locs1) (hs : ∀ v ∈ st', am_sc (gn σ) v) :
    am_Iv Λ I g A H0 H1 locs1 ν0 n0 (va_up ν (gn σ) q) lsA ls (.ref (gn σ) :: st') τ bc bs ∧ st'.map (am_tr (va_up ν (gn σ) q)) = st'.map (am_tr ν) ∧ am_tr (va_up ν (gn σ) q) (.ref (gn σ)) = .ref q := by
  rw [am_wl_push Iv.2.2.2.1 hn he ho] at hP hD
  obtain ⟨-, -, -, ⟨k1, k2, k3, k4, k5⟩, ⟨i5, -⟩, ⟨i6, i7⟩, ⟨i8, i9⟩, i10, i11, i12⟩ := Iv
  have hb : gn σ < am_sb := by omega
  have hu : ∀ a, a < gn σ ∨ am_sb ≤ a → va_up ν (gn σ) q a = ν a := fun a ha => am_up_ne _ _ (by omega)
  refine ⟨⟨hP, hD, hS, ⟨k1, by omega, by omega, hcp, hcq⟩, ⟨fun v hv => am_sc_mono (by omega) (i5 v hv), fun v hv => ?_⟩, ⟨by rw [am_prs_nu hu i5]; exact i6, i7⟩, ⟨by omega, by omega⟩, fun n hn => by rw [hu n (hn.imp (fun z => by omega) id)]; exact i10 n hn, by omega, fun k => by rw [hu _ (Or.inr (by omega))]; exact i12 k⟩, am_map_nu hu hs, by simp [am_tr, va_up]⟩
  rcases List.mem_cons.mp hv with rfl | hv
  · exact (Or.inl (by rw [hn]; exact Nat.lt_succ_self _) : gn σ < gn τ ∨ am_sb ≤ gn σ)
  · exact am_sc_mono (by omega) (hs v hv)
end AMA
