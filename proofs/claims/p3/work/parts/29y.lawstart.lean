/-! ===== the law's start ===== -/
def lw_tm : Nat → Term := fun i => match i with
  | 0 => .string "AcTerms$Reader" 68
  | 1 => .string "AcTerms$Reader" 76
  | _ => .string "AcTerms$Reader" 78
def lw_adK (f h : Nat → Nat) (q : Nat) : Nat → Nat := fun i => match i with
  | 0 => f 0
  | 1 => f 1
  | 2 => f 2
  | 3 => h 0
  | 4 => h 1
  | 5 => h 2
  | _ => q
theorem lw_adK_eq (f h : Nat → Nat) (q : Nat) : ∀ i, i < 3 → lw_adK f h q i = f i := fun i hi => by
  match i, hi with
  | 0, _ => rfl
  | 1, _ => rfl
  | 2, _ => rfl
theorem lw_adK_v (f h : Nat → Nat) (q : Nat) : ∀ i, i < 3 → lw_adK f h q (3 + i) = h i := fun i hi => by
  match i, hi with
  | 0, _ => rfl
  | 1, _ => rfl
  | 2, _ => rfl
theorem lw_g {p : Program} {s : State} {m : MethodId} {meth : Method} {c : Code} {b L : Nat} {xs : Nat → Int32} (C0 : lw_At p s m meth c b L xs) : ∃ g : am_G, am_ok g (fun q => s.heap.size ≤ q) s := by
  obtain ⟨-, -, -, -, -, hts, -, -, -, hgv⟩ := C0
  have htsW : ∀ w ∈ am_W, w.before #[Value.ref b] s = true := fun w hw => hts w (am_W_in hw)
  obtain ⟨c0, i0, k0⟩ := u_known (C := RX0) (T := TX0) (N := 12) (n := 12) htsW am_cwX0 (htsW _ (am_hw_mem (i := 359) (by decide +kernel)))
  obtain ⟨c1, i1, k1⟩ := u_known (C := RX1) (T := TX1) (N := 4) (n := 4) htsW am_cwX1 (htsW _ (am_hw_mem (i := 268) (by decide +kernel)))
  obtain ⟨c2, i2, k2⟩ := u_known (C := RX2) (T := TX2) (N := 4) (n := 4) htsW am_cwX2 (htsW _ (am_hw_mem (i := 156) (by decide +kernel)))
  obtain ⟨c3, i3, k3⟩ := u_known (C := RX3) (T := TX3) (N := 7) (n := 7) htsW am_cwX3 (htsW _ (am_hw_mem (i := 262) (by decide +kernel)))
  obtain ⟨c4, i4, k4⟩ := u_known (C := RX4) (T := TX4) (N := 9) (n := 9) htsW am_cwX4 (htsW _ (am_hw_mem (i := 292) (by decide +kernel)))
  obtain ⟨c5, i5, k5⟩ := u_known (C := RX5) (T := TX5) (N := 2) (n := 2) htsW am_cwX5 (htsW _ (am_hw_mem (i := 249) (by decide +kernel)))
  obtain ⟨c6, i6, k6⟩ := u_known (C := RX6) (T := TX6) (N := 6) (n := 6) htsW am_cwX6 (htsW _ (am_hw_mem (i := 222) (by decide +kernel)))
  obtain ⟨c7, i7, k7⟩ := u_known (C := RX8) (T := TX8) (N := 5) (n := 5) htsW am_cwX8 (htsW _ (am_hw_mem (i := 162) (by decide +kernel)))
  obtain ⟨c8, i8, k8⟩ := u_known (C := RX9) (T := TX9) (N := 11) (n := 11) htsW am_cwX9 (htsW _ (am_hw_mem (i := 404) (by decide +kernel)))
  obtain ⟨c9, i9, k9⟩ := u_known (C := RX10) (T := TX10) (N := 8) (n := 8) htsW am_cwX10 (htsW _ (am_hw_mem (i := 146) (by decide +kernel)))
  obtain ⟨c10, i10, k10⟩ := u_known (C := RX11) (T := TX11) (N := 53) (n := 53) htsW am_cwX11 (htsW _ (am_hw_mem (i := 1087) (by decide +kernel)))
  obtain ⟨a0, ka0, q0, e0, f0, g0⟩ := Cond.arrayClass_spec (htsW _ cm_ac_int)
  obtain ⟨a1, ka1, q1, e1, f1, g1⟩ := Cond.arrayClass_spec (htsW _ cm_ac_long)
  obtain ⟨a2, ka2, q2, e2, f2, g2⟩ := Cond.arrayClass_spec (htsW _ cm_ac_byte)
  obtain ⟨a3, ka3, q3, e3, f3, g3⟩ := Cond.arrayClass_spec (htsW _ cm_ac_boolean)
  have hAO : va_AO RX8 s := va_AO.of (hts _ (List.mem_of_getElem? (i := 154) (by decide +kernel)))
  obtain ⟨q4, a4, ka4, h1, -, h3, h4, h5⟩ := Cond.arrayOver_spec hAO
  have fl := flat_of_before _ hgv
  obtain ⟨adK, adV, hS, hE⟩ := vk_Sof (args := #[Value.ref b]) (s := s) (N := 3) (tm := lw_tm) (len := am_tlen) (byt := am_tbyt) (A := fun q => s.heap.size ≤ q) (by decide +kernel)
    (fun i hi => fl _ ((by decide +kernel : ∀ i, i < 3 → (Cond.exactly (lw_tm i) "java/lang/String") ∈ flatC (Jvm.Cond.and given_1 narrow_1)) i hi))
    (fun i hi => fl _ ((by decide +kernel : ∀ i, i < 3 → (Cond.eq (.field (lw_tm i) "java/lang/String" "coder" "B") (.int 0)) ∈ flatC (Jvm.Cond.and given_1 narrow_1)) i hi))
    (fun i hi => fl _ ((by decide +kernel : ∀ i, i < 3 → (Cond.arrayOf (.field (lw_tm i) "java/lang/String" "value" "[B") .byte) ∈ flatC (Jvm.Cond.and given_1 narrow_1)) i hi))
    (fun i hi => fl _ ((by decide +kernel : ∀ i, i < 3 → (Cond.eq (.length (.field (lw_tm i) "java/lang/String" "value" "[B")) (.int (Int32.ofNat (am_tlen.getD i 0)))) ∈ flatC (Jvm.Cond.and given_1 narrow_1)) i hi))
    (fun i hi j hj => fl _ ((by decide +kernel : ∀ i, i < 3 → ∀ j, j < am_tlen.getD i 0 → (Cond.eq (.elem (.field (lw_tm i) "java/lang/String" "value" "[B") (.int (Int32.ofNat j))) (.int ((am_tbyt.getD i []).getD j 0))) ∈ flatC (Jvm.Cond.and given_1 narrow_1)) i hi j hj))
    (fun i j hi hj hij => by
      rcases (by decide +kernel : ∀ i, i < 3 → ∀ j, j < 3 → i ≠ j → (Cond.not (Cond.eq (lw_tm i) (lw_tm j))) ∈ flatC (Jvm.Cond.and given_1 narrow_1) ∨ (Cond.not (Cond.eq (lw_tm j) (lw_tm i))) ∈ flatC (Jvm.Cond.and given_1 narrow_1)) i hi j hj hij with h | h
      · exact Or.inl (fl _ h)
      · exact Or.inr (fl _ h)) (fun a ha => Nat.not_le.mpr ha)
  have hZ : va_Z "java/lang/String" "COMPACT_STRINGS" "Z" (.int 1) (fun q => s.heap.size ≤ q) s s.heap := va_Zof (hts _ (List.mem_of_getElem? (i := 531) (by decide +kernel))) (hts _ (List.mem_of_getElem? (i := 135) (by decide +kernel))) (va_eqt (fl _ (by decide +kernel : (Cond.eq (.static "java/lang/String" "COMPACT_STRINGS" "Z") (.int 1)) ∈ flatC (Jvm.Cond.and given_1 narrow_1)))) (fun a ha => Nat.not_le.mpr ha)
  obtain ⟨qz, hzq⟩ : ∃ qz, am_zf qz (fun q => s.heap.size ≤ q) s s.heap := by
    rcases va_Zqof (A := fun q => s.heap.size ≤ q) (hts _ (List.mem_of_getElem? (i := 574) (by decide +kernel))) (hts _ (List.mem_of_getElem? (i := 139) (by decide +kernel))) (fl _ (by decide +kernel : (Cond.isRef (.static "jdk/internal/util/Preconditions" "SIOOBE_FORMATTER" "Ljava/util/function/BiFunction;")) ∈ flatC (Jvm.Cond.and given_1 narrow_1))) (fun a ha => Nat.not_le.mpr ha) with h | ⟨t, h⟩
    · exact ⟨0, Or.inl h⟩
    · exact ⟨t, Or.inr h⟩
  have hS' : vk_S 3 am_tlen am_tbyt (lw_adK adK adV qz) adV (fun q => s.heap.size ≤ q) s s.heap := ⟨fun i hi => by rw [lw_adK_eq adK adV qz i hi]; exact hS.1 i hi, fun i j hi hj e => hS.2 i j hi hj (by rw [← lw_adK_eq adK adV qz i hi, ← lw_adK_eq adK adV qz j hj]; exact e)⟩
  refine ⟨((fun c => match c with
      | 0 => c0
      | 1 => c1
      | 2 => c2
      | 3 => c3
      | 4 => c4
      | 5 => c5
      | 6 => c6
      | 7 => c7
      | 8 => c8
      | 9 => c9
      | _ => c10, fun c => match c with
      | 0 => i0
      | 1 => i1
      | 2 => i2
      | 3 => i3
      | 4 => i4
      | 5 => i5
      | 6 => i6
      | 7 => i7
      | 8 => i8
      | 9 => i9
      | _ => i10), fun t => match t with
      | 0 => a0
      | 1 => a1
      | 2 => a2
      | 3 => a3
      | _ => a4, lw_adK adK adV qz, adV), ⟨fun c q hq => ?_, fun k q hq => ?_⟩, fun w hw => ?_, ⟨hS', hZ, lw_adK_v adK adV qz, hzq⟩, fun q hq => ?_, hAO⟩
  · match c, hq with
    | 0, hq => cases hq; exact k0
    | 1, hq => cases hq; exact k1
    | 2, hq => cases hq; exact k2
    | 3, hq => cases hq; exact k3
    | 4, hq => cases hq; exact k4
    | 5, hq => cases hq; exact k5
    | 6, hq => cases hq; exact k6
    | 7, hq => cases hq; exact k7
    | 8, hq => cases hq; exact k8
    | 9, hq => cases hq; exact k9
    | 10, hq => cases hq; exact k10
    | n + 11, hq => simp at hq
  · match k, hq with
    | 0, hq => cases hq; exact ⟨fun N z => ⟨(fun k h => by cases h), ka0, f0, q0, g0⟩, e0⟩
    | 1, hq => cases hq; exact ⟨fun N z => ⟨(fun k h => by cases h), ka1, f1, q1, g1⟩, e1⟩
    | 2, hq => cases hq; exact ⟨fun N z => ⟨(fun k h => by cases h), ka2, f2, q2, g2⟩, e2⟩
    | 3, hq => cases hq; exact ⟨fun N z => ⟨(fun k h => by cases h), ka3, f3, q3, g3⟩, e3⟩
    | 4, hq => cases hq; exact ⟨fun N z => ⟨(fun k h => by cases h), ka4, h3, q4, h4⟩, ka4, q4, h3, h4, h1, h5⟩
    | n + 5, hq => simp [am_tys] at hq
  · have hw2 := List.mem_filter.mp hw
    refine va_Nw.of ?_ (hts w hw2.1)
    have hn := hw2.2
    cases w <;> first | rfl | cases hn
  · simp only [am_ldc, List.mem_cons, List.not_mem_nil, or_false] at hq
    rcases hq with rfl | rfl | rfl | rfl | rfl | rfl
    · exact vk_R.of (hts _ (List.mem_of_getElem? (i := 517) (by decide +kernel))) (hE 0 (by decide))
    · exact vk_R.of (hts _ (List.mem_of_getElem? (i := 604) (by decide +kernel))) (hE 1 (by decide))
    · exact vk_R.of (hts _ (List.mem_of_getElem? (i := 605) (by decide +kernel))) (hE 2 (by decide))
    · exact vk_R.of (hts _ (List.mem_of_getElem? (i := 707) (by decide +kernel))) (va_eqR (fl _ (by decide +kernel : (Cond.eq (.string "AcTerms$Reader" 68) (.string "AcTerms$Printer" 43)) ∈ flatC (Jvm.Cond.and given_1 narrow_1))) (hE 0 (by decide)))
    · exact vk_R.of (hts _ (List.mem_of_getElem? (i := 708) (by decide +kernel))) (va_eqR (fl _ (by decide +kernel : (Cond.eq (.string "AcTerms$Reader" 76) (.string "AcTerms$Printer" 45)) ∈ flatC (Jvm.Cond.and given_1 narrow_1))) (hE 1 (by decide)))
    · exact vk_R.of (hts _ (List.mem_of_getElem? (i := 709) (by decide +kernel))) (va_eqR (fl _ (by decide +kernel : (Cond.eq (.string "AcTerms$Reader" 78) (.string "AcTerms$Printer" 47)) ∈ flatC (Jvm.Cond.and given_1 narrow_1))) (hE 2 (by decide)))
section LWB
variable {p : Program} {l : Launch} {e : Env} {s : State} {m : MethodId} {below : List Frame} {meth : Method} {c : Code} {b L : Nat} {xs : Nat → Int32} {g : am_G} {pc : Nat}
theorem lw_ctor (C0 : lw_C p s m meth c b L xs g) {J : am_I} {idx : Nat} (how : am_own J) (hl : Cond.methodLink R_law idx (am_y J) ∈ am_W) (hi : Cond.instanceMethod (am_y J) ∈ am_W) (hname : (am_y J).name = "<init>") (hrt : am_rt J = none) (hlen : (parseMethodDescriptor (am_y J).desc).map (fun d => d.parameters.length) = some 0) (hd : decode code pc = .ok (.invokespecial idx, 3)) {κ κ1 : List cm_C} (hC : cm_Ctr J 4 [.ref 0] κ κ1) (hpos : 0 < κ.length) {ν : Nat → Nat} {H : Heap} {locs : List Loc} {lsA : Array Slot} {cells slots : Nat} {Q : State → Prop} {wr : va_W} {rest : List Value}
    (hP : va_P g.1 vwCl (cm_wl g ν κ) H) (hD : va_D (fun q => s.heap.size ≤ q) (cm_wl g ν κ)) (hS : va_S (fun q => s.heap.size ≤ q) s.heap H locs) (hcl : cm_cl κ) (hPr : va_P g.1 vwCl wr H) (hdis : lw_dis (cm_wl g ν κ) wr) (hls : lsA.size = 4) (hcat : (rest.map fun v => v.category).sum ≤ 8) (hroom : cells + (κ1.length - κ.length) ≤ 600000 ∧ slots + (cm_sl κ1 - cm_sl κ) ≤ 7302250)
    (kk : ∀ (H1 : Heap) (locs1 : List Loc) (ν1 : Nat → Nat), (∀ n, n < κ.length ∨ am_sb ≤ n → ν1 n = ν n) → va_P g.1 vwCl (cm_wl g ν1 κ1) H1 → va_D (fun q => s.heap.size ≤ q) (cm_wl g ν1 κ1) → cm_cl κ1 → va_S (fun q => s.heap.size ≤ q) s.heap H1 locs1 → va_P g.1 vwCl wr H1 → lw_dis (cm_wl g ν1 κ1) wr → W p l e room_1 s m #[Value.ref b] below meth c H1 locs1 (cells + (κ1.length - κ.length)) (slots + (cm_sl κ1 - cm_sl κ)) Q (F0 m (pc + 3) lsA rest)) :
    W p l e room_1 s m #[Value.ref b] below meth c H locs cells slots Q (F0 m pc lsA (.ref (ν 0) :: rest)) := by
  obtain ⟨⟨hx, hb, hr, hml, hown, hts, hX, hbl, hlk, hgv⟩, hok⟩ := C0
  have htsW : ∀ w ∈ am_W, w.before #[Value.ref b] s = true := fun w hw => hts w (am_W_in hw)
  have hmx := how.2.2.2.2.2
  have hA : ∀ q, va_A (cm_wl g ν κ) H.size q → s.heap.size ≤ q := by
    intro q hq
    rcases hq with ⟨k, e, hk⟩ | hq
    · exact hD.2 k _ hk
    · exact Nat.le_trans hS.1 hq
  have hpre : ∀ U : State, U.heap = H → s.WarmedH U.vm → cm_Pc g ν κ [.ref 0] H.size (([Value.ref 0].map (am_tr ν)).toArray) U := by
    intro U hU hW
    subst hU
    refine ⟨rfl, rfl, hP, hD.weaken (fun _ _ _ _ => trivial), hcl, fun v hv => ?_, cm_ok_warm hW ⟨hok.1, hok.2.1, hok.2.2.2.2⟩⟩
    rw [List.mem_singleton.mp hv]
    exact Or.inl hpos
  have hM := hC.2 l g ν H.size
  have hw : am_ws J = Cond.code (am_y J) (am_code J) (am_mx J) none :: am_W := by rw [← hrt]; rfl
  have hrun : va_Run p l e room_1 s m #[Value.ref b] below meth c H locs cells slots (κ1.length - κ.length) (cm_sl κ1 - cm_sl κ) (F0 m pc lsA (.ref (ν 0) :: rest)) rest (cm_Q g ν κ.length κ1 (va_A (cm_wl g ν κ) H.size) (Value.ref (ν 0) :: []).toArray) (va_A (cm_wl g ν κ) H.size) :=
    va_runI (b := ν 0) (As := []) (own := R_law) ⟨hx, hb, hml, hown, hts⟩ hM ⟨callB_of 0 hts (lw_goodJ how) hw rfl rfl (htsW _ how.2.2.1) (htsW _ hl) ⟨how.2.2.2.1, how.2.2.2.2.1, hlen⟩ ⟨show 4 + 1 ≤ 2048 by decide, show 8 + (am_mx J + 11) + 40 * 4 ≤ 84000 by omega⟩, hname, htsW _ hi⟩ ⟨cm_blind, hpre⟩ rfl rfl hls rfl (by simpa using hcat) hd hroom
  intro T hT X
  obtain ⟨v, st₀, t, T', L2, h0, X', hL, e1, e2, ⟨⟨ν', hν, hnn, hv, hP1, hD1, hcl1⟩, hz, hk⟩, go⟩ := hrun T hT X
  rw [h0] at hz hk
  cases hv
  obtain ⟨hP2, hd2⟩ := lw_keep (A := fun _ => True) hPr hdis hk hD1
  have hS' : va_S (fun q => s.heap.size ≤ q) s.heap T'.heap (locs ++ L2) := ⟨Nat.le_trans hS.1 (by rw [e1]; exact hz), fun q h1 h2 => by
      rw [e1, hk q (Nat.lt_of_lt_of_le h1 hS.1) (fun z => h2 (hA q z))]
      exact hS.2.1 q h1 h2, fun q hq => by
      rcases List.mem_append.mp hq with h | h
      · exact hS.2.2 q h
      · exact hA _ (hL q h)⟩
  obtain ⟨t2, a1, b1⟩ := kk T'.heap (locs ++ L2) ν' hν (by rw [e1]; exact hP1) ⟨hD1.1, fun k q hq => hA _ (hD1.2 k q hq)⟩ hcl1 hS' (by rw [e1]; exact hP2) hd2 T' rfl X'
  exact ⟨t2, go t2 a1, b1⟩
/-- names: the first cell is q, texts are where they are -/
def lw_nu (g : am_G) (q : Nat) : Nat → Nat := fun n => if n < am_sb then q else g.2.2.1 (n - am_sb)
theorem lw_nu0 (g : am_G) (q : Nat) : lw_nu g q 0 = q := rfl
theorem lw_nus (g : am_G) (q k : Nat) : lw_nu g q (am_sb + k) = g.2.2.1 k := by
  unfold lw_nu
  rw [if_neg (by omega), Nat.add_sub_cancel_left]
theorem lw_w1 (g : am_G) (q ci : Nat) (ty : Nat → FieldType) (N : Nat) : cm_wl g (lw_nu g q) [.inr (ci, cm_df ty N)] = [(q, .inr (ci, cm_df ty N))] := by
  show [(lw_nu g q 0, (Sum.inr (ci, (cm_df ty N).map (am_tr (lw_nu g q))) : va_E))] = _
  rw [cm_df_id, lw_nu0]
theorem lw_cl1 (ci : Nat) (ty : Nat → FieldType) (N : Nat) : cm_cl [.inr (ci, cm_df ty N)] := by
  refine ⟨by show 1 ≤ am_sb; decide, fun n e h => ?_⟩
  match n, h with
  | 0, h =>
    cases h
    exact fun v hv => (cm_df_mem hv).1 _
  | n + 1, h => simp at h
set_option maxHeartbeats 4000000 in
theorem lw_begin (l : Launch) (hL : L ≤ 2560) (C0 : lw_At p s m meth c b L xs) (Inv : Nat → am_S → am_S → Prop) (hs : ∀ n σx σm, Inv (n + 1) σx σm → Inv n σx σm ∧ lw_all (Inv n) σx σm) {N : Nat} (hN : L < 5 * (N + 1)) (h0 : Inv N am_x0 am_m0) : W p l e room_1 s m #[Value.ref b] below meth c s.heap [] 0 0 (lw_Z below #[Value.ref b] s) (entryFrame m ([Value.ref b] : List Value).toArray 4) := by
  obtain ⟨g, hok⟩ := lw_g C0
  have CC : lw_C p s m meth c b L xs g := ⟨C0, hok⟩
  obtain ⟨hx, hb, hr, hml, hown, hts, hX, hbl, hlk, hgv⟩ := C0
  have htsW : ∀ w ∈ am_W, w.before #[Value.ref b] s = true := fun w hw => hts w (am_W_in hw)
  have hl := lv_entry ([.ref b]) (n := 4) (Nat.le_of_ble_eq_true rfl)
  rw [lg_entry_eq]
  generalize (lg_sl ([.ref b]) ++ List.replicate (4 - (lg_sl ([.ref b])).length) Slot.unset).toArray = ls at hl ⊢
  have hl : lv_has ls 4 [(0, .ref b)] := hl
  have hA : ∀ q : Nat, s.heap.size ≤ q → s.heap.size ≤ q := fun _ h => h
  have hP0 : va_P g.1 vwCl [] s.heap := fun k q h => by simp at h
  have hD0 : va_D (fun q => s.heap.size ≤ q) [] := ⟨fun i j p q h => by simp at h, fun k q h => by simp at h⟩
  refine va_new (ci := 9) (fs := cm_df tyX10 8) (C := RX10) (T := TX10) (N := 8) (own := R_law) hx hb htsW am_cwX10 tyX10 tyX10_ok hown (htsW _ (am_hw_mem (i := 145) (by decide +kernel))) (htsW _ (am_hw_mem (i := 146) (by decide +kernel))) (htsW _ (am_hw_mem (i := 124) (by decide +kernel))) hok.1 hP0 hD0 va_S.rf hA rfl (cm_df_get _ _) (by decide) (by decide) (by decide +kernel : decode code 0 = .ok (.new 7, 3)) (fun q1 H hP hD hS => ?_)
  have hP : va_P g.1 vwCl (cm_wl g (lw_nu g q1) cm_x0) H := by
    show va_P g.1 vwCl (cm_wl g (lw_nu g q1) [.inr (9, cm_df tyX10 8)]) H
    rw [lw_w1]
    exact hP
  have hD : va_D (fun q => s.heap.size ≤ q) (cm_wl g (lw_nu g q1) cm_x0) := by
    show va_D _ (cm_wl g (lw_nu g q1) [.inr (9, cm_df tyX10 8)])
    rw [lw_w1]
    exact hD
  refine lv_dup hx hb (by decide +kernel : decode code 3 = .ok (.dup, 1)) rfl ?_
  refine lw_ctor (ν := lw_nu g q1) (wr := []) (rest := [.ref q1]) CC cm_owX10 (am_hw_mem (i := 147) (by decide +kernel)) (am_hw_mem (i := 148) (by decide +kernel)) rfl rfl (by decide +kernel) (by decide +kernel : decode code 4 = .ok (.invokespecial 9, 3)) cm_x_ctr (by decide) hP hD hS (lw_cl1 _ _ _) (fun k q h => by simp at h) (fun i j p q _ h => by simp at h) hl.1 (by simp [Value.category]) ⟨by decide +kernel, by decide +kernel⟩ (fun H locs ν1 hν hP hD hcl hS _ _ => ?_)
  have hq1 : ν1 0 = q1 := hν 0 (Or.inl (by decide))
  have hs1 : ∀ k, ν1 (am_sb + k) = g.2.2.1 k := fun k => (hν _ (Or.inr (Nat.le_add_right _ _))).trans (lw_nus g q1 k)
  refine lv_astore_n (lv' := [(1, .ref q1), (0, .ref b)]) hx hb (by decide +kernel : decode code 7 = .ok (.astore_n 1, 1)) rfl hl (by decide) rfl fun ls hl => ?_
  have hdn : ∀ (w : va_W), va_P g.1 vwCl w H → lw_dis w [] := fun w _ i j p q _ h => by simp at h
  have c1 : 0 + 1 + (cm_x1.length - cm_x0.length) + 1 ≤ 600000 := by decide +kernel
  have c2 : 0 + 8 + (cm_sl cm_x1 - cm_sl cm_x0) + 53 ≤ 7302250 := by decide +kernel
  refine va_new (ci := 10) (fs := cm_df tyX11 53) (C := RX11) (T := TX11) (N := 53) (own := R_law) hx hb htsW am_cwX11 tyX11 tyX11_ok hown (htsW _ (am_hw_mem (i := 1086) (by decide +kernel))) (htsW _ (am_hw_mem (i := 1087) (by decide +kernel))) (htsW _ (am_hw_mem (i := 134) (by decide +kernel))) hok.1 hP hD hS hA rfl (cm_df_get _ _) c1 c2 (by decide +kernel : decode code 8 = .ok (.new 10, 3)) (fun q2 H hP2 hD2 hS => ?_)
  have hPx : va_P g.1 vwCl (cm_wl g ν1 cm_x1) H := fun k q hk => hP2 k q (by rw [List.getElem?_append_left ((List.getElem?_eq_some_iff.mp hk).1)]; exact hk)
  have hPm : va_P g.1 vwCl (cm_wl g (lw_nu g q2) cm_m0) H := by
    show va_P g.1 vwCl (cm_wl g (lw_nu g q2) [.inr (10, cm_df tyX11 53)]) H
    rw [lw_w1]
    intro k q hk
    match k, hk with
    | 0, hk =>
      cases hk
      exact hP2 (cm_wl g ν1 cm_x1).length _ (by rw [List.getElem?_append_right (Nat.le_refl _), Nat.sub_self]; rfl)
    | n + 1, hk => simp at hk
  have hDm : va_D (fun q => s.heap.size ≤ q) (cm_wl g (lw_nu g q2) cm_m0) := by
    show va_D _ (cm_wl g (lw_nu g q2) [.inr (10, cm_df tyX11 53)])
    rw [lw_w1]
    refine ⟨fun i j p q hi hj _ => ?_, fun k q hk => ?_⟩
    · match i, j, hi, hj with
      | 0, 0, _, _ => rfl
      | n + 1, _, hi, _ => simp at hi
      | _, n + 1, _, hj => simp at hj
    · match k, hk with
      | 0, hk =>
        cases hk
        exact hD2.2 (cm_wl g ν1 cm_x1).length (q2, _) (by rw [List.getElem?_append_right (Nat.le_refl _), Nat.sub_self]; rfl)
      | n + 1, hk => simp at hk
  have hdm : lw_dis (cm_wl g (lw_nu g q2) cm_m0) (cm_wl g ν1 cm_x1) := by
    show lw_dis (cm_wl g (lw_nu g q2) [.inr (10, cm_df tyX11 53)]) (cm_wl g ν1 cm_x1)
    rw [lw_w1]
    intro i j p q hi hj he
    match i, hi with
    | 0, hi =>
      cases hi
      have hjl := (List.getElem?_eq_some_iff.mp hj).1
      have h1 := hD2.1 (cm_wl g ν1 cm_x1).length j (q2, .inr (10, cm_df tyX11 53)) q (by rw [List.getElem?_append_right (Nat.le_refl _), Nat.sub_self]; rfl) (by rw [List.getElem?_append_left hjl]; exact hj) he
      omega
    | n + 1, hi => simp at hi
  refine lv_dup hx hb (by decide +kernel : decode code 11 = .ok (.dup, 1)) rfl ?_
  refine lw_ctor (ν := lw_nu g q2) (wr := cm_wl g ν1 cm_x1) (rest := [.ref q2]) CC cm_owX11 (am_hw_mem (i := 1088) (by decide +kernel)) (am_hw_mem (i := 1089) (by decide +kernel)) rfl rfl (by decide +kernel) (by decide +kernel : decode code 12 = .ok (.invokespecial 12, 3)) cm_m_ctr (by decide) hPm hDm hS (lw_cl1 _ _ _) hPx hdm hl.1 (by simp [Value.category]) ⟨by decide +kernel, by decide +kernel⟩ (fun H locs ν2 hν2 hPm hDm hclm hS hPx hdx => ?_)
  have hq2 : ν2 0 = q2 := hν2 0 (Or.inl (by decide))
  have hs2 : ∀ k, ν2 (am_sb + k) = g.2.2.1 k := fun k => (hν2 _ (Or.inr (Nat.le_add_right _ _))).trans (lw_nus g q2 k)
  refine lv_astore_n (lv' := [(2, .ref q2), (1, .ref q1), (0, .ref b)]) hx hb (by decide +kernel : decode code 15 = .ok (.astore_n 2, 1)) rfl hl (by decide) rfl fun ls hl => ?_
  refine lv_iconst (v := 0) hx hb (by decide +kernel : decode code 16 = .ok (.iconst 0, 1)) rfl ?_
  refine lv_istore_n (lv' := [(3, .int 0), (2, .ref q2), (1, .ref q1), (0, .ref b)]) hx hb (by decide +kernel : decode code 17 = .ok (.istore_n 3, 1)) rfl hl (by decide) rfl fun ls hl => ?_
  have hmain := lw_loop (l := l) (e := e) (below := below) (CB := 599107) (SB := 6890000 + (0 + 8 + (cm_sl cm_x1 - cm_sl cm_x0) + 53 + (cm_sl cm_m1 - cm_sl cm_m0))) CC hL Inv hs N 0 am_x0 am_m0 h0 (by omega) (by omega)
  have hDx : va_D (fun q => s.heap.size ≤ q) (cm_wl g ν1 cm_x1) := hD
  have hdd : lw_dis (am_wl am_Lx g (fun n => ν1 (am_pm n)) am_x0) (am_wl am_Lm g ν2 am_m0) := by
    rw [am_wm]
    intro i j p q hi hj
    have hil : i < 76 := by
      have := (List.getElem?_eq_some_iff.mp hi).1
      rw [am_wl_len] at this
      exact this
    rw [am_wx hil] at hi
    exact lw_dis_symm hdx _ _ p q hi hj
  have key := hmain H locs (fun n => ν1 (am_pm n)) ν2 ls ⟨am_Px hPx, by rw [am_wm]; exact hPm, am_Dx hDx, by rw [am_wm]; exact hDm, hdd, hS, am_clx, am_clm, ⟨fun k => by show ν1 (am_pm (am_sb + k)) = _; rw [am_pm_ge (by unfold am_sb; omega)]; exact hs1 k, hs2⟩, am_hsub hl (fun q hq => by
    have e1 : (fun n => ν1 (am_pm n)) 0 = q1 := hq1
    rw [e1, hq2] at hq
    simp only [List.mem_cons, List.not_mem_nil, or_false] at hq ⊢
    rcases hq with rfl | rfl | rfl | rfl
    · exact Or.inr (Or.inr (Or.inr rfl))
    · exact Or.inr (Or.inr (Or.inl rfl))
    · exact Or.inr (Or.inl rfl)
    · exact Or.inl rfl), by decide, by decide +kernel, by decide, by decide +kernel⟩
  have ec : 599107 - gc am_x0 = 0 + 1 + (cm_x1.length - cm_x0.length) + 1 + (cm_m1.length - cm_m0.length) := by decide +kernel
  have es : 6890000 + (0 + 8 + (cm_sl cm_x1 - cm_sl cm_x0) + 53 + (cm_sl cm_m1 - cm_sl cm_m0)) - gs am_x0 = 0 + 8 + (cm_sl cm_x1 - cm_sl cm_x0) + 53 + (cm_sl cm_m1 - cm_sl cm_m0) := by
    rw [am_gx.2.2.2.2.2.1]
    omega
  rw [ec, es] at key
  exact key
end LWB
