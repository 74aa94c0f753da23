/-! ===== sound: new cells, copies, ends, calls ===== -/
section AMC
variable {Λ : am_Lay} {I : am_I} {d pc : Nat} {ls : List (Option Value)} {st : List Value} {σ : am_S} {r0 : Option Value} {σ0 : am_S}
/-- what must hold of the class of Terms -/
def am_tok : Prop := am_cok RX8 TX8 5 ∧ Cond.instantiable RX8 5 ∈ am_W ∧ Cond.initialized RX8 ∈ am_W
theorem am_new {idx : Nat} (ht : am_tok) (hcl : Cond.classLink (am_y I).cls idx RX8 ∈ am_W) (hd : decode (am_code I) pc = .ok (.new idx, 3)) (h1 : 1 ≤ gc σ) (h5 : 5 ≤ gs σ) (h : am_E Λ I d (pc + 3) ls (.ref (gn σ) :: st) (am_nT σ) r0 σ0) : am_E Λ I d pc ls st σ r0 σ0 := by
  have e1 : gc (am_nT σ) = gc σ - 1 := rfl
  have e2 : gs (am_nT σ) = gs σ - 5 := rfl
  have m1 := h.1.1
  have m2 := h.1.2
  refine ⟨⟨by omega, by omega⟩, fun p l e s m args below meth c g A ν0 n0 bc bs H locs ν lsA Cx Iv => ?_⟩
  have b1 := Iv.2.2.2.2.2.2.1.1
  have b2 := Iv.2.2.2.2.2.2.1.2
  obtain ⟨⟨hin, -, -, -⟩, hi, hn⟩ := ht
  refine va_new (ci := 7) (fs := [.int 0, .int 0, .null, .int 0, .int 0]) (C := RX8) (T := TX8) (N := 5) Cx.1 Cx.2.1 Cx.2.2.2.2.2.2.1 hin tyX8 tyX8_ok Cx.2.2.2.2.2.1 (Cx.2.2.2.2.2.2.1 _ hcl) (Cx.2.2.2.2.2.2.1 _ hi) (Cx.2.2.2.2.2.2.1 _ hn) Cx.2.2.2.2.2.2.2.2.1.1 Iv.1 Iv.2.1 Iv.2.2.1 Cx.2.2.2.2.2.2.2.2.2 rfl
    (fun j hj => by rcases (show j = 0 ∨ j = 1 ∨ j = 2 ∨ j = 3 ∨ j = 4 by omega) with rfl | rfl | rfl | rfl | rfl <;> rfl) (show bc - gc σ + 1 ≤ bc - gc σ0 by omega) (show bs - gs σ + 5 ≤ bs - gs σ0 by omega) hd fun q H1 hP hD hS => ?_
  obtain ⟨Iv', em, et⟩ := am_iv_new (τ := am_nT σ) (st' := st) Iv rfl h1 rfl (by omega) (by
      rw [am_ent_T (show am_isT Λ (am_nT σ) (gn σ) from ⟨Iv.2.2.2.1.2.1, Nat.lt_succ_self _, am_up_self _ _ _⟩)]
      simp [am_nT, gS, gQ, va_up, va_rf]) (fun k hk => am_ent_congr (am_up_ne _ _ (Nat.ne_of_lt hk)) rfl rfl rfl (am_up_ne _ _ (Nat.ne_of_lt hk)) (am_up_ne _ _ (Nat.ne_of_lt hk)) rfl)
    (fun n i t ht => Nat.lt_succ_of_lt (Iv.2.2.2.1.2.2.2.1 n i t ht)) (fun n a ha => by
      by_cases hn : n = gn σ
      · subst hn
        have : (none : Option Nat) = some a := by simpa [am_nT, gQ, va_up] using ha
        cases this
      · exact Nat.lt_succ_of_lt (Iv.2.2.2.1.2.2.2.2 n a (by rw [← show gQ (am_nT σ) n = gQ σ n from am_up_ne _ _ hn]; exact ha))) hP hD hS Iv.2.2.2.2.1.2
  have k0 := h.2 p l e s m args below meth c g A ν0 n0 bc bs H1 locs _ lsA Cx Iv'
  rw [List.map_cons, em, et, e1, e2, show bc - (gc σ - 1) = bc - gc σ + 1 by omega, show bs - (gs σ - 5) = bs - gs σ + 5 by omega] at k0
  exact k0
theorem am_newq {idx : Nat} {n : Int32} {r : List Value} (hcl : Cond.classLink (am_y I).cls idx RX8 ∈ am_W) (hd : decode (am_code I) pc = .ok (.anewarray idx, 3)) (hn : ¬ n < 0) (hN : n.toNatClampNeg ≤ 1000) (h1 : 1 ≤ gc σ) (h5 : n.toNatClampNeg ≤ gs σ) (h : am_E Λ I d (pc + 3) ls (.ref (gn σ) :: r) (am_nA σ n.toNatClampNeg) r0 σ0) : am_E Λ I d pc ls (.int n :: r) σ r0 σ0 := by
  have e1 : gc (am_nA σ n.toNatClampNeg) = gc σ - 1 := rfl
  have e2 : gs (am_nA σ n.toNatClampNeg) = gs σ - n.toNatClampNeg := rfl
  have m1 := h.1.1
  have m2 := h.1.2
  refine ⟨⟨by omega, by omega⟩, fun p l e s m args below meth c g A ν0 n0 bc bs H locs ν lsA Cx Iv => ?_⟩
  have b1 := Iv.2.2.2.2.2.2.1.1
  have b2 := Iv.2.2.2.2.2.2.1.2
  refine va_newq (C := RX8) (N' := n.toNatClampNeg) Cx.1 Cx.2.1 Cx.2.2.2.2.2.1 (Cx.2.2.2.2.2.2.1 _ hcl) Cx.2.2.2.2.2.2.2.2.1.2.2.2.2 Cx.2.2.2.2.2.2.2.2.1.1 Iv.1 Iv.2.1 Iv.2.2.1 Cx.2.2.2.2.2.2.2.2.2 hn rfl (by omega) (show bc - gc σ + 1 ≤ bc - gc σ0 by omega) (show bs - gs σ + n.toNatClampNeg ≤ bs - gs σ0 by omega) hd fun q cA H1 hK hP hD hS => ?_
  have hcA : cA = g.2.1 4 := by
    obtain ⟨-, k1⟩ := hK.2 5 (cA, .object RX8) rfl
    obtain ⟨-, k2⟩ := Cx.2.2.2.2.2.2.2.2.1.1.2 4 (g.2.1 4, .object RX8) rfl
    obtain ⟨_, _, -, -, -, f1⟩ := k1
    obtain ⟨_, _, -, -, -, f2⟩ := k2
    exact Option.some.inj (f1.symm.trans f2)
  subst hcA
  obtain ⟨Iv', em, et⟩ := am_iv_new (τ := am_nA σ n.toNatClampNeg) (st' := r) Iv rfl h1 rfl (by omega) (by
      have hR : am_isR Λ (am_nA σ n.toNatClampNeg) (gn σ) := by
        unfold am_isR
        cases hb : Nat.blt (gn σ) Λ.1 with
        | true => exact absurd (Nat.le_of_ble_eq_true hb) (Nat.not_lt.mpr Iv.2.2.2.1.2.1)
        | false => exact ⟨Nat.lt_succ_self _, am_up_self _ _ _⟩
      rw [(am_isR_spec (σ := am_nA σ n.toNatClampNeg) (Nat.le_succ_of_le Iv.2.2.2.1.2.1) hR).2]
      have er : am_rl Λ (am_nA σ n.toNatClampNeg) (gn σ) = n.toNatClampNeg := by
        unfold am_rl
        cases hb : Nat.blt (gn σ) Λ.1 with
        | true => exact absurd (Nat.le_of_ble_eq_true hb) (Nat.not_lt.mpr Iv.2.2.2.1.2.1)
        | false => exact am_up_self _ _ _
      rw [er]
      simp [am_nA, gP, va_up]) (fun k hk => am_ent_congr rfl rfl rfl (am_up_ne _ _ (Nat.ne_of_lt hk)) rfl (am_up_ne _ _ (Nat.ne_of_lt hk)) (am_up_ne _ _ (Nat.ne_of_lt hk)))
    (fun a i t ht => by
      by_cases ha : a = gn σ
      · subst ha
        have : (none : Option Nat) = some t := by simpa [am_nA, gP, va_up] using ht
        cases this
      · exact Nat.lt_succ_of_lt (Iv.2.2.2.1.2.2.2.1 a i t (by simpa [am_nA, gP, va_up, ha] using ht))) (fun a b hb => Nat.lt_succ_of_lt (Iv.2.2.2.1.2.2.2.2 a b hb)) hP hD hS (fun v hv => Iv.2.2.2.2.1.2 v (List.mem_cons_of_mem _ hv))
  have k0 := h.2 p l e s m args below meth c g A ν0 n0 bc bs H1 locs _ lsA Cx Iv'
  rw [List.map_cons, em, et, e1, e2, show bc - (gc σ - 1) = bc - gc σ + 1 by omega, show bs - (gs σ - n.toNatClampNeg) = bs - gs σ + n.toNatClampNeg by omega] at k0
  exact k0
/-- what holds at the end -/
theorem am_end {s : State} {args : Array Value} {g : am_G} {A : Nat → Prop} {ν0 : Nat → Nat} {n0 bc bs : Nat} {H : Heap} {locs : List Loc} {ν : Nat → Nat} {lsA : Array Slot} {v : Option Value} (Iv : am_Iv Λ I g A s.heap H locs ν0 n0 ν lsA ls v.toList σ bc bs) (t : State) (ht : t.heap = H) : am_Q Λ g ν0 n0 v σ A args s (.returned (v.map (am_tr ν))) t := by
  obtain ⟨i1, i2, i3, i4, ⟨-, i6⟩, -, -, i10, i11, -⟩ := Iv
  exact ⟨⟨ν, i10, i11, rfl, fun w hw => i6 w (by rw [hw]; exact List.mem_cons_self), by rw [ht]; exact i1, i2, i4⟩, i3.F ht⟩
theorem am_iret {v : Int32} (hd : decode (am_code I) pc = .ok (.ireturn, 1)) (hr : am_rok (am_rt I) v) : am_E Λ I d pc ls [.int v] σ (some (.int v)) σ := by
  refine ⟨⟨Nat.le_refl _, Nat.le_refl _⟩, fun p l e s m args below meth c g A ν0 n0 bc bs H locs ν lsA Cx Iv => ?_⟩
  obtain ⟨hx, hb, -, hret, hlk, -⟩ := Cx
  have hn : ∃ ty, am_rt I = some ty ∧ narrow ty (.int v) = .int v := by
    unfold am_rok at hr
    split at hr
    · rename_i h; exact ⟨_, h, rfl⟩
    · rename_i h; exact ⟨_, h, by rcases hr with rfl | rfl <;> rfl⟩
    · rename_i h; exact ⟨_, h, hr⟩
    · exact hr.elim
  obtain ⟨ty, h1, h2⟩ := hn
  exact W.zret hx hb (hret.trans h1) h2 (fun t ht _ => am_end (v := some (.int v)) Iv t ht) Iv.2.2.1.2.2 hd hlk
theorem am_lret {v : Int64} (hd : decode (am_code I) pc = .ok (.lreturn, 1)) (hr : am_rt I = some .long) : am_E Λ I d pc ls [.long v] σ (some (.long v)) σ := by
  refine ⟨⟨Nat.le_refl _, Nat.le_refl _⟩, fun p l e s m args below meth c g A ν0 n0 bc bs H locs ν lsA Cx Iv => ?_⟩
  obtain ⟨hx, hb, -, hret, hlk, -⟩ := Cx
  exact W.lret hx hb (hret.trans hr) (fun t ht _ => am_end (v := some (.long v)) Iv t ht) Iv.2.2.1.2.2 hd hlk
theorem am_aret {v : Value} {rt : FieldType} (hd : decode (am_code I) pc = .ok (.areturn, 1)) (hr : am_rt I = some rt) (hrt : (∃ n, rt = .object n) ∨ ∃ t, rt = .array t) (hv : v = .null ∨ ∃ a, v = .ref a) : am_E Λ I d pc ls [v] σ (some v) σ := by
  refine ⟨⟨Nat.le_refl _, Nat.le_refl _⟩, fun p l e s m args below meth c g A ν0 n0 bc bs H locs ν lsA Cx Iv => ?_⟩
  obtain ⟨hx, hb, -, hret, hlk, -⟩ := Cx
  exact W.aret hx hb (hret.trans hr) hrt (by rcases hv with rfl | ⟨a, rfl⟩; exact Or.inl rfl; exact Or.inr ⟨_, rfl⟩) (fun t ht _ => am_end (v := some v) Iv t ht) Iv.2.2.1.2.2 hd hlk
theorem am_vret (hd : decode (am_code I) pc = .ok (.return_, 1)) (hr : am_rt I = none) : am_E Λ I d pc ls [] σ none σ := by
  refine ⟨⟨Nat.le_refl _, Nat.le_refl _⟩, fun p l e s m args below meth c g A ν0 n0 bc bs H locs ν lsA Cx Iv => ?_⟩
  obtain ⟨hx, hb, -, hret, hlk, -⟩ := Cx
  exact W.vret hx hb (hret.trans hr) (fun t ht _ => am_end (v := none) Iv t ht) Iv.2.2.1.2.2 hd hlk
/-- Object.<init> -/
theorem am_oinit {idx n : Nat} {r : List Value} (hd : decode (am_code I) pc = .ok (.invokespecial idx, 3)) (hl : Cond.methodLink (am_y I).cls idx objectInit ∈ am_W) (hi : Cond.instanceMethod objectInit ∈ am_W) (hc : Cond.code objectInit ⟨#[0xb1]⟩ 1 none ∈ am_W) (hr : am_cat r ≤ 8) (h : am_E Λ I (d + 1) (pc + 3) ls r σ r0 σ0) : am_E Λ I (d + 1) pc ls (.ref n :: r) σ r0 σ0 := by
  refine ⟨h.1, fun p l e s m args below meth c g A ν0 n0 bc bs H locs ν lsA Cx Iv => ?_⟩
  have hcat : ((r.map (am_tr ν)).map fun v => v.category).sum ≤ 8 := by
    have key : ∀ l : List Value, ((l.map (am_tr ν)).map fun v => v.category).sum = am_cat l := by
      intro l
      induction l with
      | nil => rfl
      | cons a t ih => simp only [List.map_cons, List.sum_cons, am_trc, am_cat]; rw [ih]
    rw [key]
    exact hr
  refine W.objInit (a := ν n) (rest := r.map (am_tr ν)) Cx.1 Cx.2.1 Cx.2.2.2.2.2.1 (Cx.2.2.2.2.2.2.1 _ hl) (Cx.2.2.2.2.2.2.1 _ hi) (Cx.2.2.2.2.2.2.1 _ hc) rfl (by rw [Cx.2.2.1]; exact Iv.2.2.2.2.2.1.1.1) rfl hd (Nat.le_add_left 1 d) (show 2 * 0 + ((r.map (am_tr ν)).map fun v => v.category).sum + 12 ≤ 40 * (d + 1) by omega) ?_
  exact h.2 p l e s m args below meth c g A ν0 n0 bc bs H locs ν lsA Cx (am_iv_st Iv fun v hv => Iv.2.2.2.2.1.2 v (List.mem_cons_of_mem _ hv))
end AMC
