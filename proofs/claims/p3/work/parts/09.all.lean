/-! ===== sound: all steps together ===== -/
theorem am_s_p {x : Value} {r : List Value} (hx : ∀ N, am_sc N x) : ∀ N, (∀ v ∈ r, am_sc N v) → ∀ v ∈ x :: r, am_sc N v := fun N h v hv => (List.mem_cons.mp hv).elim (fun e => e ▸ hx N) (h v)
theorem am_s_0 {a : Value} {r : List Value} : ∀ N, (∀ v ∈ a :: r, am_sc N v) → ∀ v ∈ r, am_sc N v := fun _ h v hv => h v (List.mem_cons_of_mem _ hv)
theorem am_s_00 {a b : Value} {r : List Value} : ∀ N, (∀ v ∈ a :: b :: r, am_sc N v) → ∀ v ∈ r, am_sc N v := fun _ h v hv => h v (List.mem_cons_of_mem _ (List.mem_cons_of_mem _ hv))
theorem am_s_1 {a x : Value} {r : List Value} (hx : ∀ N, am_sc N x) : ∀ N, (∀ v ∈ a :: r, am_sc N v) → ∀ v ∈ x :: r, am_sc N v := fun N h => am_s_p hx N (am_s_0 N h)
theorem am_s_2 {a b x : Value} {r : List Value} (hx : ∀ N, am_sc N x) : ∀ N, (∀ v ∈ a :: b :: r, am_sc N v) → ∀ v ∈ x :: r, am_sc N v := fun N h => am_s_p hx N (am_s_00 N h)
theorem am_s_d {a : Value} {r : List Value} : ∀ N, (∀ v ∈ a :: r, am_sc N v) → ∀ v ∈ a :: a :: r, am_sc N v := fun N h v hv => (List.mem_cons.mp hv).elim (fun e => e ▸ h a List.mem_cons_self) (h v)
theorem am_s_dd {a b : Value} {r : List Value} : ∀ N, (∀ v ∈ a :: b :: r, am_sc N v) → ∀ v ∈ a :: b :: a :: b :: r, am_sc N v := fun N h v hv => by
  rcases List.mem_cons.mp hv with rfl | hv
  · exact h _ List.mem_cons_self
  · rcases List.mem_cons.mp hv with rfl | hv
    · exact h _ (List.mem_cons_of_mem _ List.mem_cons_self)
    · exact h v hv
theorem am_si (x : Int32) : ∀ N, am_sc N (.int x) := fun _ => trivial
theorem am_sl (x : Int64) : ∀ N, am_sc N (.long x) := fun _ => trivial
theorem am_sn : ∀ N, am_sc N .null := fun _ => trivial
def am_tgok (pc : Nat) (off : Int) : Bool := match off with
  | .ofNat _ => true
  | .negSucc n => Nat.ble (n + 1) pc
theorem am_tg_ok {pc : Nat} {off : Int} (h : am_tgok pc off = true) : (pc : Int) + off = (am_tg pc off : Int) := by
  cases off with
  | ofNat n => exact (Int.natCast_add pc n).symm
  | negSucc n =>
    have h1 : n + 1 ≤ pc := Nat.le_of_ble_eq_true h
    show (pc : Int) + Int.negSucc n = ((pc - (n + 1) : Nat) : Int)
    omega
/-- what an instruction's branches and the method's answer must be -/
def am_iok (I : am_I) (pc : Nat) (i : Instr) : Prop := match i with
  | .goto off => am_tgok pc off = true
  | .ifCond _ off => am_tgok pc off = true
  | .if_icmp _ off => am_tgok pc off = true
  | .ifnull off => am_tgok pc off = true
  | .ifnonnull off => am_tgok pc off = true
  | .tableswitch dflt lo hi offs => am_tgok pc dflt = true ∧ (∀ k : Nat, k < offs.size → am_tgok pc (offs.getD k 0) = true) ∧ hi = lo + offs.size - 1 ∧ -1000 ≤ lo ∧ hi ≤ 1000
  | .areturn => ∃ rt, am_rt I = some rt ∧ ((∃ n, rt = .object n) ∨ ∃ t, rt = .array t)
  | .return_ => am_rt I = none
  | .putfield idx => ∀ ci k tag, am_lk idx (am_fl I) = some (ci, k, tag) → ci = 7 → ((am_y I).name = "<init>" ∧ (am_y I).cls = RX8) ∧ Cond.fieldLink (am_y I).cls idx RX8 (TX8 k).2.1 (TX8 k).2.2.1 ∈ am_W ∧ (tag = 3 → k = 2) ∧ (tag = 2 → k ≠ 2)
  | _ => True
def am_lnk (MT : Nat → am_I) (own : String) (q : Nat × Nat × Nat × Nat × Nat) : Prop :=
  (q.2.2.2.1 < 4 → am_mok own q.1 (MT q.2.1) q.2.2.1 q.2.2.2.1 q.2.2.2.2) ∧
  (q.2.2.2.1 = 4 → Cond.methodLink own q.1 arraycopyName ∈ am_W ∧ Cond.native arraycopyName ∈ am_W ∧ Cond.static arraycopyName ∈ am_W ∧ Cond.initialized "java/lang/System" ∈ am_W) ∧
  (q.2.2.2.1 = 5 → Cond.methodLink own q.1 objectInit ∈ am_W ∧ Cond.instanceMethod objectInit ∈ am_W ∧ Cond.code objectInit ⟨#[0xb1]⟩ 1 none ∈ am_W) ∧
  (q.2.2.2.1 = 6 → Cond.methodLink own q.1 Lib.Math.max.name ∈ am_W ∧ Cond.static Lib.Math.max.name ∈ am_W ∧ Cond.initialized "java/lang/Math" ∈ am_W ∧ Cond.code Lib.Math.max.name Lib.Math.max.code 2 (some .int) ∈ am_W) ∧
  (q.2.2.2.1 = 7 → Cond.methodLink own q.1 Lib.Math.min.name ∈ am_W ∧ Cond.static Lib.Math.min.name ∈ am_W ∧ Cond.initialized "java/lang/Math" ∈ am_W ∧ Cond.code Lib.Math.min.name Lib.Math.min.code 2 (some .int) ∈ am_W)
def am_okI (MT : Nat → am_I) (I : am_I) : Prop :=
  (∀ q ∈ am_in I, (am_len q.2 ≠ 0 → decode (am_code I) q.1 = .ok (q.2, am_len q.2)) ∧ (∃ len, decode (am_code I) q.1 = .ok (q.2, len)) ∧ am_iok I q.1 q.2) ∧
  (∀ q ∈ am_fl I, am_fok (am_y I).cls q.1 q.2.1 q.2.2.1 q.2.2.2) ∧
  (∀ q ∈ am_ml I, am_lnk MT (am_y I).cls q) ∧
  (∀ q ∈ am_c32 I, Cond.constant (am_y I).cls q.1 q.2 ∈ am_W) ∧ (∀ q ∈ am_c64 I, Cond.constantLong (am_y I).cls q.1 q.2 ∈ am_W) ∧
  (∀ q ∈ am_tx I, q.2 < 3 ∧ ∃ tx, ((am_y I).cls, q.1, tx, q.2) ∈ am_ldc) ∧ (∀ i ∈ am_nw I, Cond.classLink (am_y I).cls i RX8 ∈ am_W)
section AMZ
variable {Λ : am_Lay} {I : am_I} {d pc : Nat} {ls : List (Option Value)} {st : List Value} {σ : am_S} {r0 : Option Value} {σ0 : am_S}
theorem am_ldcS {idx k : Nat} (hk : k < 3) {tx : String} (hm : ((am_y I).cls, idx, tx, k) ∈ am_ldc) (hd : decode (am_code I) pc = .ok (.ldc idx, 2)) (h : am_E Λ I d (pc + 2) ls (.ref (am_sb + k) :: st) σ r0 σ0) : am_E Λ I d pc ls st σ r0 σ0 := by
  refine ⟨h.1, fun p l e s m args below meth c g A ν0 n0 bc bs H locs ν lsA Cx Iv => ?_⟩
  have hZ := Cx.2.2.2.2.2.2.2.2.1.2.2.2.1 _ hm
  refine va_ldcS Cx.1 Cx.2.1 Cx.2.2.2.2.2.1 hZ hd ?_
  have k0 := h.2 p l e s m args below meth c g A ν0 n0 bc bs H locs ν lsA Cx (am_iv_st Iv fun v hv => by
    rcases List.mem_cons.mp hv with rfl | hv
    · exact Or.inr (Nat.le_add_right _ _)
    · exact Iv.2.2.2.2.1.2 v hv)
  rw [List.map_cons, show am_tr ν (.ref (am_sb + k)) = .ref (g.2.2.1 k) from congrArg Value.ref (Iv.2.2.2.2.2.2.2.2.2 k)] at k0
  exact k0
theorem am_copyi {idx a b la lb : Nat} {n sp dp : Int32} {r : List Value} (hw : Cond.methodLink (am_y I).cls idx arraycopyName ∈ am_W ∧ Cond.native arraycopyName ∈ am_W ∧ Cond.static arraycopyName ∈ am_W ∧ Cond.initialized "java/lang/System" ∈ am_W) (hd : decode (am_code I) pc = .ok (.invokestatic idx, 3)) (ha : am_fa Λ a = some (0, la)) (hb : am_fa Λ b = some (0, lb)) (h1 : ¬ sp < 0) (h2 : ¬ dp < 0) (h3 : ¬ n < 0) (h4 : sp.toNatClampNeg + n.toNatClampNeg ≤ la) (h5 : dp.toNatClampNeg + n.toNatClampNeg ≤ lb) (hr : am_cat r ≤ 0)
    (h : am_E Λ I (d + 1) (pc + 3) ls r (wAf σ b (va_cpy (gA σ a) (gA σ b) sp.toNatClampNeg dp.toNatClampNeg n.toNatClampNeg)) r0 σ0) : am_E Λ I (d + 1) pc ls (.int n :: .int dp :: .ref b :: .int sp :: .ref a :: r) σ r0 σ0 := by
  refine ⟨h.1, fun p l e s m args below meth c g A ν0 n0 bc bs H locs ν lsA Cx Iv => ?_⟩
  obtain ⟨han, hax⟩ := am_fa_spec ha
  obtain ⟨hbn, hbx⟩ := am_fa_spec hb
  have hea := am_wl_get (Λ := Λ) (g := g) (ν := ν) (Nat.lt_of_lt_of_le han Iv.2.2.2.1.2.1)
  have heb := am_wl_get (Λ := Λ) (g := g) (ν := ν) (Nat.lt_of_lt_of_le hbn Iv.2.2.2.1.2.1)
  rw [am_ent_arr han hax] at hea
  rw [am_ent_arr hbn hbx] at heb
  have hts := Cx.2.2.2.2.2.2.1
  have hnw : nativeFrameWords "java/lang/System" "arraycopy" 5 ≤ 29 := by decide +kernel
  have hlo : ((r.map (am_tr ν)).map fun v => v.category).sum + (nativeFrameWords "java/lang/System" "arraycopy" 5 + 11) ≤ 40 * (d + 1) := by
    rw [am_catm ν r]
    omega
  refine va_copyi (rest := r.map (am_tr ν)) Cx.1 Cx.2.1 (Cx.2.2.1.trans Iv.2.2.2.2.2.1.1.1.symm) Cx.2.2.2.2.2.1 (hts _ hw.1) (hts _ hw.2.1) (hts _ hw.2.2.1) (hts _ hw.2.2.2) Cx.2.2.2.2.2.2.2.2.1.1 Iv.1 Iv.2.1 Iv.2.2.1 a b 0 0 hea heb rfl rfl rfl h1 h2 h3 h4 h5 (fun _ _ => rfl) (Nat.le_add_left 1 d) hlo hd fun H1 locs1 hP hD hS => ?_
  refine h.2 p l e s m args below meth c g A ν0 n0 bc bs H1 locs1 ν lsA Cx (am_iv_set (n := b) (τ := wAf σ b (va_cpy (gA σ a) (gA σ b) sp.toNatClampNeg dp.toNatClampNeg n.toNatClampNeg)) Iv rfl rfl rfl ?_ (fun q hq => am_ent_congr rfl (am_up_ne _ _ hq) rfl rfl rfl rfl rfl) Iv.2.2.2.1 hP hD hS fun w hw => Iv.2.2.2.2.1.2 w (List.mem_cons_of_mem _ (List.mem_cons_of_mem _ (List.mem_cons_of_mem _ (List.mem_cons_of_mem _ (List.mem_cons_of_mem _ hw))))))
  rw [am_ent_arr hbn hbx]
  simp [am_ar, wAf, gA, va_up]
theorem am_copyl {idx a b la lb : Nat} {n sp dp : Int32} {r : List Value} (hw : Cond.methodLink (am_y I).cls idx arraycopyName ∈ am_W ∧ Cond.native arraycopyName ∈ am_W ∧ Cond.static arraycopyName ∈ am_W ∧ Cond.initialized "java/lang/System" ∈ am_W) (hd : decode (am_code I) pc = .ok (.invokestatic idx, 3)) (ha : am_fa Λ a = some (1, la)) (hb : am_fa Λ b = some (1, lb)) (h1 : ¬ sp < 0) (h2 : ¬ dp < 0) (h3 : ¬ n < 0) (h4 : sp.toNatClampNeg + n.toNatClampNeg ≤ la) (h5 : dp.toNatClampNeg + n.toNatClampNeg ≤ lb) (hr : am_cat r ≤ 0)
    (h : am_E Λ I (d + 1) (pc + 3) ls r (wJf σ b (va_cpy (gJ σ a) (gJ σ b) sp.toNatClampNeg dp.toNatClampNeg n.toNatClampNeg)) r0 σ0) : am_E Λ I (d + 1) pc ls (.int n :: .int dp :: .ref b :: .int sp :: .ref a :: r) σ r0 σ0 := by
  refine ⟨h.1, fun p l e s m args below meth c g A ν0 n0 bc bs H locs ν lsA Cx Iv => ?_⟩
  obtain ⟨han, hax⟩ := am_fa_spec ha
  obtain ⟨hbn, hbx⟩ := am_fa_spec hb
  have hea := am_wl_get (Λ := Λ) (g := g) (ν := ν) (Nat.lt_of_lt_of_le han Iv.2.2.2.1.2.1)
  have heb := am_wl_get (Λ := Λ) (g := g) (ν := ν) (Nat.lt_of_lt_of_le hbn Iv.2.2.2.1.2.1)
  rw [am_ent_arr han hax] at hea
  rw [am_ent_arr hbn hbx] at heb
  have hts := Cx.2.2.2.2.2.2.1
  have hnw : nativeFrameWords "java/lang/System" "arraycopy" 5 ≤ 29 := by decide +kernel
  have hlo : ((r.map (am_tr ν)).map fun v => v.category).sum + (nativeFrameWords "java/lang/System" "arraycopy" 5 + 11) ≤ 40 * (d + 1) := by
    rw [am_catm ν r]
    omega
  refine va_copyl (rest := r.map (am_tr ν)) Cx.1 Cx.2.1 (Cx.2.2.1.trans Iv.2.2.2.2.2.1.1.1.symm) Cx.2.2.2.2.2.1 (hts _ hw.1) (hts _ hw.2.1) (hts _ hw.2.2.1) (hts _ hw.2.2.2) Cx.2.2.2.2.2.2.2.2.1.1 Iv.1 Iv.2.1 Iv.2.2.1 a b 1 1 hea heb rfl rfl rfl h1 h2 h3 h4 h5 (fun _ _ => rfl) (Nat.le_add_left 1 d) hlo hd fun H1 locs1 hP hD hS => ?_
  refine h.2 p l e s m args below meth c g A ν0 n0 bc bs H1 locs1 ν lsA Cx (am_iv_set (n := b) (τ := wJf σ b (va_cpy (gJ σ a) (gJ σ b) sp.toNatClampNeg dp.toNatClampNeg n.toNatClampNeg)) Iv rfl rfl rfl ?_ (fun q hq => am_ent_congr rfl rfl (am_up_ne _ _ hq) rfl rfl rfl rfl) Iv.2.2.2.1 hP hD hS fun w hw => Iv.2.2.2.2.1.2 w (List.mem_cons_of_mem _ (List.mem_cons_of_mem _ (List.mem_cons_of_mem _ (List.mem_cons_of_mem _ (List.mem_cons_of_mem _ hw))))))
  rw [am_ent_arr hbn hbx]
  simp [am_ar, wJf, gJ, va_up]
theorem am_max {idx : Nat} {x y : Int32} {r : List Value} (hw : Cond.methodLink (am_y I).cls idx Lib.Math.max.name ∈ am_W ∧ Cond.static Lib.Math.max.name ∈ am_W ∧ Cond.initialized "java/lang/Math" ∈ am_W ∧ Cond.code Lib.Math.max.name Lib.Math.max.code 2 (some .int) ∈ am_W) (hd : decode (am_code I) pc = .ok (.invokestatic idx, 3)) (hr : am_cat r ≤ 8) (h : am_E Λ I (d + 1) (pc + 3) ls (.int (if x < y then y else x) :: r) σ r0 σ0) : am_E Λ I (d + 1) pc ls (.int y :: .int x :: r) σ r0 σ0 := by
  refine ⟨h.1, fun p l e s m args below meth c g A ν0 n0 bc bs H locs ν lsA Cx Iv => ?_⟩
  have hts := Cx.2.2.2.2.2.2.1
  have m1 := h.1
  have b1 := Iv.2.2.2.2.2.2.1
  have hlo : ((r.map (am_tr ν)).map fun v => v.category).sum + 13 ≤ 40 * (d + 1) := by
    rw [am_catm ν r]
    omega
  exact va_mmax (rest := r.map (am_tr ν)) Cx.1 Cx.2.1 (Cx.2.2.1.trans Iv.2.2.2.2.2.1.1.1.symm) Cx.2.2.2.2.2.1 (hts _ hw.1) (hts _ hw.2.1) (hts _ hw.2.2.1) (hts _ hw.2.2.2) (Nat.le_add_left 1 d) hlo (show bc - gc σ ≤ bc - gc σ0 by omega) (show bs - gs σ ≤ bs - gs σ0 by omega) hd
    (h.2 p l e s m args below meth c g A ν0 n0 bc bs H locs ν lsA Cx (am_iv_st Iv fun v hv => am_s_2 (am_si _) _ Iv.2.2.2.2.1.2 v hv))
theorem am_min {idx : Nat} {x y : Int32} {r : List Value} (hw : Cond.methodLink (am_y I).cls idx Lib.Math.min.name ∈ am_W ∧ Cond.static Lib.Math.min.name ∈ am_W ∧ Cond.initialized "java/lang/Math" ∈ am_W ∧ Cond.code Lib.Math.min.name Lib.Math.min.code 2 (some .int) ∈ am_W) (hd : decode (am_code I) pc = .ok (.invokestatic idx, 3)) (hr : am_cat r ≤ 8) (h : am_E Λ I (d + 1) (pc + 3) ls (.int (if y < x then y else x) :: r) σ r0 σ0) : am_E Λ I (d + 1) pc ls (.int y :: .int x :: r) σ r0 σ0 := by
  refine ⟨h.1, fun p l e s m args below meth c g A ν0 n0 bc bs H locs ν lsA Cx Iv => ?_⟩
  have hts := Cx.2.2.2.2.2.2.1
  have m1 := h.1
  have b1 := Iv.2.2.2.2.2.2.1
  have hlo : ((r.map (am_tr ν)).map fun v => v.category).sum + 13 ≤ 40 * (d + 1) := by
    rw [am_catm ν r]
    omega
  exact va_mmin (rest := r.map (am_tr ν)) Cx.1 Cx.2.1 (Cx.2.2.1.trans Iv.2.2.2.2.2.1.1.1.symm) Cx.2.2.2.2.2.1 (hts _ hw.1) (hts _ hw.2.1) (hts _ hw.2.2.1) (hts _ hw.2.2.2) (Nat.le_add_left 1 d) hlo (show bc - gc σ ≤ bc - gc σ0 by omega) (show bs - gs σ ≤ bs - gs σ0 by omega) hd
    (h.2 p l e s m args below meth c g A ν0 n0 bc bs H locs ν lsA Cx (am_iv_st Iv fun v hv => am_s_2 (am_si _) _ Iv.2.2.2.2.1.2 v hv))
end AMZ
