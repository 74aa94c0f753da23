def am_hw (i : Nat) (w : Cond) : Bool := (match lw_tbl[i]? with
  | some v => decide (v = w)
  | none => false) && goodWord w
theorem am_hw_mem {i : Nat} {w : Cond} (h : am_hw i w = true) : w ∈ am_W := by
  unfold am_hw at h
  obtain ⟨h1, h2⟩ := Bool.and_eq_true_iff.mp h
  split at h1
  · rename_i v hv
    have e : v = w := of_decide_eq_true h1
    subst e
    exact List.mem_filter.mpr ⟨List.mem_of_getElem? hv, h2⟩
  · cases h1
def am_hn (i : Nat) (w : Cond) : Bool := (match lw_tbl[i]? with
  | some v => decide (v = w)
  | none => false) && am_isN w
theorem am_hn_mem {i : Nat} {w : Cond} (h : am_hn i w = true) : w ∈ am_nest := by
  unfold am_hn at h
  obtain ⟨h1, h2⟩ := Bool.and_eq_true_iff.mp h
  split at h1
  · rename_i v hv
    have e : v = w := of_decide_eq_true h1
    subst e
    exact List.mem_filter.mpr ⟨List.mem_of_getElem? hv, h2⟩
  · cases h1
theorem am_fa0 {α : Type} {p : α → Prop} : ∀ q ∈ ([] : List α), p q := fun _ h => by cases h
theorem am_fa1 {α : Type} {p : α → Prop} {a : α} {l : List α} (h : p a) (hl : ∀ q ∈ l, p q) : ∀ q ∈ a :: l, p q := fun q hq => (List.mem_cons.mp hq).elim (fun e => e ▸ h) (hl q)
def am_iokB (I : am_I) (pc : Nat) (i : Instr) : Bool := match i with
  | .goto off => am_tgok pc off
  | .ifCond _ off => am_tgok pc off
  | .if_icmp _ off => am_tgok pc off
  | .ifnull off => am_tgok pc off
  | .ifnonnull off => am_tgok pc off
  | .tableswitch dflt lo hi offs => am_tgok pc dflt && ((List.range offs.size).all (fun k => am_tgok pc (offs.getD k 0)) && (decide (hi = lo + offs.size - 1) && (decide (-1000 ≤ lo) && decide (hi ≤ 1000))))
  | .areturn => (match am_rt I with
    | some (.object _) => true
    | some (.array _) => true
    | _ => false)
  | .return_ => (match am_rt I with
    | none => true
    | _ => false)
  | .putfield idx => (match am_lk idx (am_fl I) with
    | some (ci, _, _) => !(Nat.beq ci 7)
    | none => true)
  | _ => true
theorem am_iokB_ok {I : am_I} {pc : Nat} {i : Instr} (h : am_iokB I pc i = true) : am_iok I pc i := by
  cases i <;> first
    | trivial
    | exact h
    | (simp only [am_iokB, Bool.and_eq_true, decide_eq_true_eq] at h
       exact ⟨h.1, fun k hk => List.all_eq_true.mp h.2.1 k (List.mem_range.mpr hk), h.2.2.1, h.2.2.2.1, h.2.2.2.2⟩)
    | (unfold am_iokB at h
       dsimp only at h
       split at h
       · rename_i hr; exact ⟨_, hr, Or.inl ⟨_, rfl⟩⟩
       · rename_i hr; exact ⟨_, hr, Or.inr ⟨_, rfl⟩⟩
       · cases h)
    | (unfold am_iokB at h
       dsimp only at h
       split at h
       · rename_i hr; exact hr
       · cases h)
    | (intro ci k tag hl h7
       unfold am_iokB at h
       dsimp only at h
       rw [hl] at h
       subst h7
       cases h)
def am_ichk (I : am_I) : Bool := (am_in I).all (fun q => match decode (am_code I) q.1 with
  | .ok (i, len) => decide (i = q.2) && ((Nat.beq (am_len q.2) 0 || Nat.beq (am_len q.2) len) && am_iokB I q.1 q.2)
  | _ => false)
theorem am_ichk_ok {I : am_I} (h : am_ichk I = true) : ∀ q ∈ am_in I, (am_len q.2 ≠ 0 → decode (am_code I) q.1 = .ok (q.2, am_len q.2)) ∧ (∃ len, decode (am_code I) q.1 = .ok (q.2, len)) ∧ am_iok I q.1 q.2 := by
  intro q hq
  have h1 := List.all_eq_true.mp h q hq
  split at h1
  · rename_i i len hd
    simp only [Bool.and_eq_true, decide_eq_true_eq, Bool.or_eq_true] at h1
    obtain ⟨rfl, h2, h3⟩ := h1
    refine ⟨fun hne => ?_, ⟨len, hd⟩, am_iokB_ok h3⟩
    rcases h2 with h2 | h2
    · exact absurd (Nat.eq_of_beq_eq_true h2) hne
    · rw [hd, Nat.eq_of_beq_eq_true h2]
  · cases h1
theorem am_cwX0 : ∀ w ∈ u_ws RX0 TX0 12, w ∈ am_W := am_fa1 (am_hw_mem (i := 378) (by decide +kernel)) (am_fa1 (am_hw_mem (i := 380) (by decide +kernel)) (am_fa1 (am_hw_mem (i := 382) (by decide +kernel)) (am_fa1 (am_hw_mem (i := 384) (by decide +kernel)) (am_fa1 (am_hw_mem (i := 386) (by decide +kernel)) (am_fa1 (am_hw_mem (i := 388) (by decide +kernel)) (am_fa1 (am_hw_mem (i := 390) (by decide +kernel)) (am_fa1 (am_hw_mem (i := 392) (by decide +kernel)) (am_fa1 (am_hw_mem (i := 394) (by decide +kernel)) (am_fa1 (am_hw_mem (i := 396) (by decide +kernel)) (am_fa1 (am_hw_mem (i := 398) (by decide +kernel)) (am_fa1 (am_hw_mem (i := 400) (by decide +kernel)) (am_fa0))))))))))))
theorem am_cokX0 : am_cok RX0 TX0 12 := ⟨am_cwX0, ⟨tyX0, tyX0_ok⟩, nmX0, by decide +kernel⟩
theorem am_cwX1 : ∀ w ∈ u_ws RX1 TX1 4, w ∈ am_W := am_fa1 (am_hw_mem (i := 281) (by decide +kernel)) (am_fa1 (am_hw_mem (i := 283) (by decide +kernel)) (am_fa1 (am_hw_mem (i := 285) (by decide +kernel)) (am_fa1 (am_hw_mem (i := 287) (by decide +kernel)) (am_fa0))))
theorem am_cokX1 : am_cok RX1 TX1 4 := ⟨am_cwX1, ⟨tyX1, tyX1_ok⟩, nmX1, by decide +kernel⟩
theorem am_cwX2 : ∀ w ∈ u_ws RX2 TX2 4, w ∈ am_W := am_fa1 (am_hw_mem (i := 212) (by decide +kernel)) (am_fa1 (am_hw_mem (i := 214) (by decide +kernel)) (am_fa1 (am_hw_mem (i := 216) (by decide +kernel)) (am_fa1 (am_hw_mem (i := 218) (by decide +kernel)) (am_fa0))))
theorem am_cokX2 : am_cok RX2 TX2 4 := ⟨am_cwX2, ⟨tyX2, tyX2_ok⟩, nmX2, by decide +kernel⟩
theorem am_cwX3 : ∀ w ∈ u_ws RX3 TX3 7, w ∈ am_W := am_fa1 (am_hw_mem (i := 343) (by decide +kernel)) (am_fa1 (am_hw_mem (i := 345) (by decide +kernel)) (am_fa1 (am_hw_mem (i := 347) (by decide +kernel)) (am_fa1 (am_hw_mem (i := 349) (by decide +kernel)) (am_fa1 (am_hw_mem (i := 351) (by decide +kernel)) (am_fa1 (am_hw_mem (i := 353) (by decide +kernel)) (am_fa1 (am_hw_mem (i := 355) (by decide +kernel)) (am_fa0)))))))
theorem am_cokX3 : am_cok RX3 TX3 7 := ⟨am_cwX3, ⟨tyX3, tyX3_ok⟩, nmX3, by decide +kernel⟩
theorem am_cwX4 : ∀ w ∈ u_ws RX4 TX4 9, w ∈ am_W := am_fa1 (am_hw_mem (i := 316) (by decide +kernel)) (am_fa1 (am_hw_mem (i := 318) (by decide +kernel)) (am_fa1 (am_hw_mem (i := 320) (by decide +kernel)) (am_fa1 (am_hw_mem (i := 322) (by decide +kernel)) (am_fa1 (am_hw_mem (i := 324) (by decide +kernel)) (am_fa1 (am_hw_mem (i := 326) (by decide +kernel)) (am_fa1 (am_hw_mem (i := 328) (by decide +kernel)) (am_fa1 (am_hw_mem (i := 330) (by decide +kernel)) (am_fa1 (am_hw_mem (i := 332) (by decide +kernel)) (am_fa0)))))))))
theorem am_cokX4 : am_cok RX4 TX4 9 := ⟨am_cwX4, ⟨tyX4, tyX4_ok⟩, nmX4, by decide +kernel⟩
theorem am_cwX5 : ∀ w ∈ u_ws RX5 TX5 2, w ∈ am_W := am_fa1 (am_hw_mem (i := 256) (by decide +kernel)) (am_fa1 (am_hw_mem (i := 258) (by decide +kernel)) (am_fa0))
theorem am_cokX5 : am_cok RX5 TX5 2 := ⟨am_cwX5, ⟨tyX5, tyX5_ok⟩, nmX5, by decide +kernel⟩
theorem am_cwX6 : ∀ w ∈ u_ws RX6 TX6 6, w ∈ am_W := am_fa1 (am_hw_mem (i := 234) (by decide +kernel)) (am_fa1 (am_hw_mem (i := 236) (by decide +kernel)) (am_fa1 (am_hw_mem (i := 238) (by decide +kernel)) (am_fa1 (am_hw_mem (i := 240) (by decide +kernel)) (am_fa1 (am_hw_mem (i := 242) (by decide +kernel)) (am_fa1 (am_hw_mem (i := 244) (by decide +kernel)) (am_fa0))))))
theorem am_cokX6 : am_cok RX6 TX6 6 := ⟨am_cwX6, ⟨tyX6, tyX6_ok⟩, nmX6, by decide +kernel⟩
theorem am_cwX8 : ∀ w ∈ u_ws RX8 TX8 5, w ∈ am_W := am_fa1 (am_hw_mem (i := 197) (by decide +kernel)) (am_fa1 (am_hw_mem (i := 199) (by decide +kernel)) (am_fa1 (am_hw_mem (i := 201) (by decide +kernel)) (am_fa1 (am_hw_mem (i := 203) (by decide +kernel)) (am_fa1 (am_hw_mem (i := 205) (by decide +kernel)) (am_fa0)))))
theorem am_cokX8 : am_cok RX8 TX8 5 := ⟨am_cwX8, ⟨tyX8, tyX8_ok⟩, nmX8, by decide +kernel⟩
theorem am_cwX9 : ∀ w ∈ u_ws RX9 TX9 11, w ∈ am_W := am_fa1 (am_hw_mem (i := 427) (by decide +kernel)) (am_fa1 (am_hw_mem (i := 429) (by decide +kernel)) (am_fa1 (am_hw_mem (i := 431) (by decide +kernel)) (am_fa1 (am_hw_mem (i := 433) (by decide +kernel)) (am_fa1 (am_hw_mem (i := 435) (by decide +kernel)) (am_fa1 (am_hw_mem (i := 437) (by decide +kernel)) (am_fa1 (am_hw_mem (i := 439) (by decide +kernel)) (am_fa1 (am_hw_mem (i := 441) (by decide +kernel)) (am_fa1 (am_hw_mem (i := 443) (by decide +kernel)) (am_fa1 (am_hw_mem (i := 445) (by decide +kernel)) (am_fa1 (am_hw_mem (i := 447) (by decide +kernel)) (am_fa0)))))))))))
theorem am_cokX9 : am_cok RX9 TX9 11 := ⟨am_cwX9, ⟨tyX9, tyX9_ok⟩, nmX9, by decide +kernel⟩
theorem am_cwX10 : ∀ w ∈ u_ws RX10 TX10 8, w ∈ am_W := am_fa1 (am_hw_mem (i := 458) (by decide +kernel)) (am_fa1 (am_hw_mem (i := 460) (by decide +kernel)) (am_fa1 (am_hw_mem (i := 462) (by decide +kernel)) (am_fa1 (am_hw_mem (i := 464) (by decide +kernel)) (am_fa1 (am_hw_mem (i := 466) (by decide +kernel)) (am_fa1 (am_hw_mem (i := 468) (by decide +kernel)) (am_fa1 (am_hw_mem (i := 470) (by decide +kernel)) (am_fa1 (am_hw_mem (i := 472) (by decide +kernel)) (am_fa0))))))))
theorem am_cokX10 : am_cok RX10 TX10 8 := ⟨am_cwX10, ⟨tyX10, tyX10_ok⟩, nmX10, by decide +kernel⟩
theorem am_cwX11 : ∀ w ∈ u_ws RX11 TX11 53, w ∈ am_W := am_fa1 (am_hw_mem (i := 1147) (by decide +kernel)) (am_fa1 (am_hw_mem (i := 1149) (by decide +kernel)) (am_fa1 (am_hw_mem (i := 1151) (by decide +kernel)) (am_fa1 (am_hw_mem (i := 1153) (by decide +kernel)) (am_fa1 (am_hw_mem (i := 1155) (by decide +kernel)) (am_fa1 (am_hw_mem (i := 1157) (by decide +kernel)) (am_fa1 (am_hw_mem (i := 1159) (by decide +kernel)) (am_fa1 (am_hw_mem (i := 1161) (by decide +kernel)) (am_fa1 (am_hw_mem (i := 1163) (by decide +kernel)) (am_fa1 (am_hw_mem (i := 1165) (by decide +kernel)) (am_fa1 (am_hw_mem (i := 1167) (by decide +kernel)) (am_fa1 (am_hw_mem (i := 1169) (by decide +kernel)) (am_fa1 (am_hw_mem (i := 1171) (by decide +kernel)) (am_fa1 (am_hw_mem (i := 1173) (by decide +kernel)) (am_fa1 (am_hw_mem (i := 1175) (by decide +kernel)) (am_fa1 (am_hw_mem (i := 1177) (by decide +kernel)) (am_fa1 (am_hw_mem (i := 1179) (by decide +kernel)) (am_fa1 (am_hw_mem (i := 1181) (by decide +kernel)) (am_fa1 (am_hw_mem (i := 1183) (by decide +kernel)) (am_fa1 (am_hw_mem (i := 1185) (by decide +kernel)) (am_fa1 (am_hw_mem (i := 1187) (by decide +kernel)) (am_fa1 (am_hw_mem (i := 1189) (by decide +kernel)) (am_fa1 (am_hw_mem (i := 1191) (by decide +kernel)) (am_fa1 (am_hw_mem (i := 1193) (by decide +kernel)) (am_fa1 (am_hw_mem (i := 1195) (by decide +kernel)) (am_fa1 (am_hw_mem (i := 1197) (by decide +kernel)) (am_fa1 (am_hw_mem (i := 1199) (by decide +kernel)) (am_fa1 (am_hw_mem (i := 1201) (by decide +kernel)) (am_fa1 (am_hw_mem (i := 1203) (by decide +kernel)) (am_fa1 (am_hw_mem (i := 1205) (by decide +kernel)) (am_fa1 (am_hw_mem (i := 1207) (by decide +kernel)) (am_fa1 (am_hw_mem (i := 1209) (by decide +kernel)) (am_fa1 (am_hw_mem (i := 1211) (by decide +kernel)) (am_fa1 (am_hw_mem (i := 1213) (by decide +kernel)) (am_fa1 (am_hw_mem (i := 1215) (by decide +kernel)) (am_fa1 (am_hw_mem (i := 1217) (by decide +kernel)) (am_fa1 (am_hw_mem (i := 1219) (by decide +kernel)) (am_fa1 (am_hw_mem (i := 1221) (by decide +kernel)) (am_fa1 (am_hw_mem (i := 1223) (by decide +kernel)) (am_fa1 (am_hw_mem (i := 1225) (by decide +kernel)) (am_fa1 (am_hw_mem (i := 1227) (by decide +kernel)) (am_fa1 (am_hw_mem (i := 1229) (by decide +kernel)) (am_fa1 (am_hw_mem (i := 1231) (by decide +kernel)) (am_fa1 (am_hw_mem (i := 1233) (by decide +kernel)) (am_fa1 (am_hw_mem (i := 1235) (by decide +kernel)) (am_fa1 (am_hw_mem (i := 1237) (by decide +kernel)) (am_fa1 (am_hw_mem (i := 1239) (by decide +kernel)) (am_fa1 (am_hw_mem (i := 1241) (by decide +kernel)) (am_fa1 (am_hw_mem (i := 1243) (by decide +kernel)) (am_fa1 (am_hw_mem (i := 1245) (by decide +kernel)) (am_fa1 (am_hw_mem (i := 1247) (by decide +kernel)) (am_fa1 (am_hw_mem (i := 1249) (by decide +kernel)) (am_fa1 (am_hw_mem (i := 1251) (by decide +kernel)) (am_fa0)))))))))))))))))))))))))))))))))))))))))))))))))))))
theorem am_cokX11 : am_cok RX11 TX11 53 := ⟨am_cwX11, ⟨tyX11, tyX11_ok⟩, nmX11, by decide +kernel⟩
theorem am_tok_ok : am_tok := ⟨am_cokX8, (am_hw_mem (i := 162) (by decide +kernel)), (am_hw_mem (i := 126) (by decide +kernel))⟩
theorem am_owX0_begin : am_own IX0_begin := ⟨by decide, (am_hw_mem (i := 947) (by decide +kernel)), (am_hw_mem (i := 132) (by decide +kernel)), by decide +kernel, by decide +kernel, by decide +kernel⟩
theorem am_owX0_hasNumber : am_own IX0_hasNumber := ⟨by decide, (am_hw_mem (i := 957) (by decide +kernel)), (am_hw_mem (i := 132) (by decide +kernel)), by decide +kernel, by decide +kernel, by decide +kernel⟩
theorem am_owX0_changed : am_own IX0_changed := ⟨by decide, (am_hw_mem (i := 961) (by decide +kernel)), (am_hw_mem (i := 132) (by decide +kernel)), by decide +kernel, by decide +kernel, by decide +kernel⟩
theorem am_owX0_has : am_own IX0_has := ⟨by decide, (am_hw_mem (i := 1002) (by decide +kernel)), (am_hw_mem (i := 132) (by decide +kernel)), by decide +kernel, by decide +kernel, by decide +kernel⟩
theorem am_owX0_given : am_own IX0_given := ⟨by decide, (am_hw_mem (i := 1006) (by decide +kernel)), (am_hw_mem (i := 132) (by decide +kernel)), by decide +kernel, by decide +kernel, by decide +kernel⟩
theorem am_owX0_found : am_own IX0_found := ⟨by decide, (am_hw_mem (i := 969) (by decide +kernel)), (am_hw_mem (i := 132) (by decide +kernel)), by decide +kernel, by decide +kernel, by decide +kernel⟩
theorem am_owX0_findBounds : am_own IX0_findBounds := ⟨by decide, (am_hw_mem (i := 973) (by decide +kernel)), (am_hw_mem (i := 132) (by decide +kernel)), by decide +kernel, by decide +kernel, by decide +kernel⟩
theorem am_owX0_search : am_own IX0_search := ⟨by decide, (am_hw_mem (i := 977) (by decide +kernel)), (am_hw_mem (i := 132) (by decide +kernel)), by decide +kernel, by decide +kernel, by decide +kernel⟩
theorem am_owX0_change : am_own IX0_change := ⟨by decide, (am_hw_mem (i := 986) (by decide +kernel)), (am_hw_mem (i := 132) (by decide +kernel)), by decide +kernel, by decide +kernel, by decide +kernel⟩
theorem am_owX0_canEnd : am_own IX0_canEnd := ⟨by decide, (am_hw_mem (i := 990) (by decide +kernel)), (am_hw_mem (i := 132) (by decide +kernel)), by decide +kernel, by decide +kernel, by decide +kernel⟩
theorem am_owX0_isAboveOne : am_own IX0_isAboveOne := ⟨by decide, (am_hw_mem (i := 994) (by decide +kernel)), (am_hw_mem (i := 132) (by decide +kernel)), by decide +kernel, by decide +kernel, by decide +kernel⟩
theorem am_owX0_keep : am_own IX0_keep := ⟨by decide, (am_hw_mem (i := 981) (by decide +kernel)), (am_hw_mem (i := 132) (by decide +kernel)), by decide +kernel, by decide +kernel, by decide +kernel⟩
theorem am_owX1_take : am_own IX1_take := ⟨by decide, (am_hw_mem (i := 754) (by decide +kernel)), (am_hw_mem (i := 130) (by decide +kernel)), by decide +kernel, by decide +kernel, by decide +kernel⟩
theorem am_owX1_gather : am_own IX1_gather := ⟨by decide, (am_hw_mem (i := 758) (by decide +kernel)), (am_hw_mem (i := 130) (by decide +kernel)), by decide +kernel, by decide +kernel, by decide +kernel⟩
theorem am_owX1_placeOf : am_own IX1_placeOf := ⟨by decide, (am_hw_mem (i := 766) (by decide +kernel)), (am_hw_mem (i := 130) (by decide +kernel)), by decide +kernel, by decide +kernel, by decide +kernel⟩
theorem am_owX1_idOf : am_own IX1_idOf := ⟨by decide, (am_hw_mem (i := 762) (by decide +kernel)), (am_hw_mem (i := 130) (by decide +kernel)), by decide +kernel, by decide +kernel, by decide +kernel⟩
theorem am_owX1_valueOf : am_own IX1_valueOf := ⟨by decide, (am_hw_mem (i := 859) (by decide +kernel)), (am_hw_mem (i := 130) (by decide +kernel)), by decide +kernel, by decide +kernel, by decide +kernel⟩
theorem am_owX1_made : am_own IX1_made := ⟨by decide, (am_hw_mem (i := 922) (by decide +kernel)), (am_hw_mem (i := 130) (by decide +kernel)), by decide +kernel, by decide +kernel, by decide +kernel⟩
theorem am_owX2_variable : am_own IX2_variable := ⟨by decide, (am_hw_mem (i := 609) (by decide +kernel)), (am_hw_mem (i := 125) (by decide +kernel)), by decide +kernel, by decide +kernel, by decide +kernel⟩
theorem am_owX2_constant : am_own IX2_constant := ⟨by decide, (am_hw_mem (i := 613) (by decide +kernel)), (am_hw_mem (i := 125) (by decide +kernel)), by decide +kernel, by decide +kernel, by decide +kernel⟩
theorem am_owX2_mark : am_own IX2_mark := ⟨by decide, (am_hw_mem (i := 504) (by decide +kernel)), (am_hw_mem (i := 125) (by decide +kernel)), by decide +kernel, by decide +kernel, by decide +kernel⟩
theorem am_owX2_push : am_own IX2_push := ⟨by decide, (am_hw_mem (i := 629) (by decide +kernel)), (am_hw_mem (i := 125) (by decide +kernel)), by decide +kernel, by decide +kernel, by decide +kernel⟩
theorem am_owX2_function : am_own IX2_function := ⟨by decide, (am_hw_mem (i := 633) (by decide +kernel)), (am_hw_mem (i := 125) (by decide +kernel)), by decide +kernel, by decide +kernel, by decide +kernel⟩
theorem am_owX2_together : am_own IX2_together := ⟨by decide, (am_hw_mem (i := 640) (by decide +kernel)), (am_hw_mem (i := 125) (by decide +kernel)), by decide +kernel, by decide +kernel, by decide +kernel⟩
theorem am_owX2_placed : am_own IX2_placed := ⟨by decide, (am_hw_mem (i := 644) (by decide +kernel)), (am_hw_mem (i := 125) (by decide +kernel)), by decide +kernel, by decide +kernel, by decide +kernel⟩
theorem am_owX2_rowOf : am_own IX2_rowOf := ⟨by decide, (am_hw_mem (i := 655) (by decide +kernel)), (am_hw_mem (i := 125) (by decide +kernel)), by decide +kernel, by decide +kernel, by decide +kernel⟩
theorem am_owX2_bounded : am_own IX2_bounded := ⟨by decide, (am_hw_mem (i := 636) (by decide +kernel)), (am_hw_mem (i := 125) (by decide +kernel)), by decide +kernel, by decide +kernel, by decide +kernel⟩
theorem am_owX2_replaced : am_own IX2_replaced := ⟨by decide, (am_hw_mem (i := 935) (by decide +kernel)), (am_hw_mem (i := 125) (by decide +kernel)), by decide +kernel, by decide +kernel, by decide +kernel⟩
theorem am_owX3_has : am_own IX3_has := ⟨by decide, (am_hw_mem (i := 909) (by decide +kernel)), (am_hw_mem (i := 129) (by decide +kernel)), by decide +kernel, by decide +kernel, by decide +kernel⟩
theorem am_owX3_inPattern : am_own IX3_inPattern := ⟨by decide, (am_hw_mem (i := 913) (by decide +kernel)), (am_hw_mem (i := 129) (by decide +kernel)), by decide +kernel, by decide +kernel, by decide +kernel⟩
theorem am_owX3_put : am_own IX3_put := ⟨by decide, (am_hw_mem (i := 917) (by decide +kernel)), (am_hw_mem (i := 129) (by decide +kernel)), by decide +kernel, by decide +kernel, by decide +kernel⟩
theorem am_owX3_found : am_own IX3_found := ⟨by decide, (am_hw_mem (i := 750) (by decide +kernel)), (am_hw_mem (i := 129) (by decide +kernel)), by decide +kernel, by decide +kernel, by decide +kernel⟩
theorem am_owX3_search : am_own IX3_search := ⟨by decide, (am_hw_mem (i := 827) (by decide +kernel)), (am_hw_mem (i := 129) (by decide +kernel)), by decide +kernel, by decide +kernel, by decide +kernel⟩
theorem am_owX3_tryRows : am_own IX3_tryRows := ⟨by decide, (am_hw_mem (i := 888) (by decide +kernel)), (am_hw_mem (i := 129) (by decide +kernel)), by decide +kernel, by decide +kernel, by decide +kernel⟩
theorem am_owX3_tryParts : am_own IX3_tryParts := ⟨by decide, (am_hw_mem (i := 899) (by decide +kernel)), (am_hw_mem (i := 129) (by decide +kernel)), by decide +kernel, by decide +kernel, by decide +kernel⟩
theorem am_owX3_copy : am_own IX3_copy := ⟨by decide, (am_hw_mem (i := 895) (by decide +kernel)), (am_hw_mem (i := 129) (by decide +kernel)), by decide +kernel, by decide +kernel, by decide +kernel⟩
theorem am_owX3_alike : am_own IX3_alike := ⟨by decide, (am_hw_mem (i := 811) (by decide +kernel)), (am_hw_mem (i := 129) (by decide +kernel)), by decide +kernel, by decide +kernel, by decide +kernel⟩
theorem am_owX3_assigned : am_own IX3_assigned := ⟨by decide, (am_hw_mem (i := 798) (by decide +kernel)), (am_hw_mem (i := 129) (by decide +kernel)), by decide +kernel, by decide +kernel, by decide +kernel⟩
theorem am_owX3_bound : am_own IX3_bound := ⟨by decide, (am_hw_mem (i := 807) (by decide +kernel)), (am_hw_mem (i := 129) (by decide +kernel)), by decide +kernel, by decide +kernel, by decide +kernel⟩
theorem am_owX3_settled : am_own IX3_settled := ⟨by decide, (am_hw_mem (i := 831) (by decide +kernel)), (am_hw_mem (i := 129) (by decide +kernel)), by decide +kernel, by decide +kernel, by decide +kernel⟩
theorem am_owX3_takesBound : am_own IX3_takesBound := ⟨by decide, (am_hw_mem (i := 835) (by decide +kernel)), (am_hw_mem (i := 129) (by decide +kernel)), by decide +kernel, by decide +kernel, by decide +kernel⟩
theorem am_owX3_less : am_own IX3_less := ⟨by decide, (am_hw_mem (i := 839) (by decide +kernel)), (am_hw_mem (i := 129) (by decide +kernel)), by decide +kernel, by decide +kernel, by decide +kernel⟩
theorem am_owX3_placesLast : am_own IX3_placesLast := ⟨by decide, (am_hw_mem (i := 848) (by decide +kernel)), (am_hw_mem (i := 129) (by decide +kernel)), by decide +kernel, by decide +kernel, by decide +kernel⟩
theorem am_owX3_choice : am_own IX3_choice := ⟨by decide, (am_hw_mem (i := 865) (by decide +kernel)), (am_hw_mem (i := 129) (by decide +kernel)), by decide +kernel, by decide +kernel, by decide +kernel⟩
theorem am_owX3_ways : am_own IX3_ways := ⟨by decide, (am_hw_mem (i := 869) (by decide +kernel)), (am_hw_mem (i := 129) (by decide +kernel)), by decide +kernel, by decide +kernel, by decide +kernel⟩
theorem am_owX3_enlist : am_own IX3_enlist := ⟨by decide, (am_hw_mem (i := 874) (by decide +kernel)), (am_hw_mem (i := 129) (by decide +kernel)), by decide +kernel, by decide +kernel, by decide +kernel⟩
theorem am_owX3_isAhead : am_own IX3_isAhead := ⟨by decide, (am_hw_mem (i := 878) (by decide +kernel)), (am_hw_mem (i := 129) (by decide +kernel)), by decide +kernel, by decide +kernel, by decide +kernel⟩
theorem am_owX4_takes : am_own IX4_takes := ⟨by decide, (am_hw_mem (i := 781) (by decide +kernel)), (am_hw_mem (i := 131) (by decide +kernel)), by decide +kernel, by decide +kernel, by decide +kernel⟩
theorem am_owX4_add : am_own IX4_add := ⟨by decide, (am_hw_mem (i := 785) (by decide +kernel)), (am_hw_mem (i := 131) (by decide +kernel)), by decide +kernel, by decide +kernel, by decide +kernel⟩
theorem am_owX4_unfolds : am_own IX4_unfolds := ⟨by decide, (am_hw_mem (i := 789) (by decide +kernel)), (am_hw_mem (i := 131) (by decide +kernel)), by decide +kernel, by decide +kernel, by decide +kernel⟩
theorem am_owX4_rankOf : am_own IX4_rankOf := ⟨by decide, (am_hw_mem (i := 802) (by decide +kernel)), (am_hw_mem (i := 131) (by decide +kernel)), by decide +kernel, by decide +kernel, by decide +kernel⟩
theorem am_owX5_byteAt : am_own IX5_byteAt := ⟨by decide, (am_hw_mem (i := 742) (by decide +kernel)), (am_hw_mem (i := 128) (by decide +kernel)), by decide +kernel, by decide +kernel, by decide +kernel⟩
theorem am_owX5_printed : am_own IX5_printed := ⟨by decide, (am_hw_mem (i := 698) (by decide +kernel)), (am_hw_mem (i := 128) (by decide +kernel)), by decide +kernel, by decide +kernel, by decide +kernel⟩
theorem am_owX5_add : am_own IX5_add := ⟨by decide, (am_hw_mem (i := 734) (by decide +kernel)), (am_hw_mem (i := 128) (by decide +kernel)), by decide +kernel, by decide +kernel, by decide +kernel⟩
theorem am_owX5_write : am_own IX5_write := ⟨by decide, (am_hw_mem (i := 702) (by decide +kernel)), (am_hw_mem (i := 128) (by decide +kernel)), by decide +kernel, by decide +kernel, by decide +kernel⟩
theorem am_owX5_writeLetter : am_own IX5_writeLetter := ⟨by decide, (am_hw_mem (i := 706) (by decide +kernel)), (am_hw_mem (i := 128) (by decide +kernel)), by decide +kernel, by decide +kernel, by decide +kernel⟩
theorem am_owX6_typed : am_own IX6_typed := ⟨by decide, (am_hw_mem (i := 482) (by decide +kernel)), (am_hw_mem (i := 127) (by decide +kernel)), by decide +kernel, by decide +kernel, by decide +kernel⟩
theorem am_owX6_byteOf : am_own IX6_byteOf := ⟨by decide, (am_hw_mem (i := 485) (by decide +kernel)), (am_hw_mem (i := 127) (by decide +kernel)), by decide +kernel, by decide +kernel, by decide +kernel⟩
theorem am_owX6_parsed : am_own IX6_parsed := ⟨by decide, (am_hw_mem (i := 496) (by decide +kernel)), (am_hw_mem (i := 127) (by decide +kernel)), by decide +kernel, by decide +kernel, by decide +kernel⟩
theorem am_owX6_next : am_own IX6_next := ⟨by decide, (am_hw_mem (i := 516) (by decide +kernel)), (am_hw_mem (i := 127) (by decide +kernel)), by decide +kernel, by decide +kernel, by decide +kernel⟩
theorem am_owX6_took : am_own IX6_took := ⟨by decide, (am_hw_mem (i := 617) (by decide +kernel)), (am_hw_mem (i := 127) (by decide +kernel)), by decide +kernel, by decide +kernel, by decide +kernel⟩
theorem am_owX6_failed : am_own IX6_failed := ⟨by decide, (am_hw_mem (i := 621) (by decide +kernel)), (am_hw_mem (i := 127) (by decide +kernel)), by decide +kernel, by decide +kernel, by decide +kernel⟩
theorem am_owX6_sum : am_own IX6_sum := ⟨by decide, (am_hw_mem (i := 500) (by decide +kernel)), (am_hw_mem (i := 127) (by decide +kernel)), by decide +kernel, by decide +kernel, by decide +kernel⟩
theorem am_owX6_product : am_own IX6_product := ⟨by decide, (am_hw_mem (i := 508) (by decide +kernel)), (am_hw_mem (i := 127) (by decide +kernel)), by decide +kernel, by decide +kernel, by decide +kernel⟩
theorem am_owX6_atom : am_own IX6_atom := ⟨by decide, (am_hw_mem (i := 512) (by decide +kernel)), (am_hw_mem (i := 127) (by decide +kernel)), by decide +kernel, by decide +kernel, by decide +kernel⟩
theorem am_owX6_called : am_own IX6_called := ⟨by decide, (am_hw_mem (i := 625) (by decide +kernel)), (am_hw_mem (i := 127) (by decide +kernel)), by decide +kernel, by decide +kernel, by decide +kernel⟩
theorem am_owX7_empty : am_own IX7_empty := ⟨by decide, (am_hw_mem (i := 770) (by decide +kernel)), (am_hw_mem (i := 142) (by decide +kernel)), by decide +kernel, by decide +kernel, by decide +kernel⟩
theorem am_owX7_kind : am_own IX7_kind := ⟨by decide, (am_hw_mem (i := 842) (by decide +kernel)), (am_hw_mem (i := 142) (by decide +kernel)), by decide +kernel, by decide +kernel, by decide +kernel⟩
theorem am_owX7_size : am_own IX7_size := ⟨by decide, (am_hw_mem (i := 776) (by decide +kernel)), (am_hw_mem (i := 142) (by decide +kernel)), by decide +kernel, by decide +kernel, by decide +kernel⟩
theorem am_owX7_at : am_own IX7_at := ⟨by decide, (am_hw_mem (i := 814) (by decide +kernel)), (am_hw_mem (i := 142) (by decide +kernel)), by decide +kernel, by decide +kernel, by decide +kernel⟩
theorem am_owX7_with : am_own IX7_with := ⟨by decide, (am_hw_mem (i := 773) (by decide +kernel)), (am_hw_mem (i := 142) (by decide +kernel)), by decide +kernel, by decide +kernel, by decide +kernel⟩
theorem am_owX7_without : am_own IX7_without := ⟨by decide, (am_hw_mem (i := 822) (by decide +kernel)), (am_hw_mem (i := 142) (by decide +kernel)), by decide +kernel, by decide +kernel, by decide +kernel⟩
theorem am_owX7_minus : am_own IX7_minus := ⟨by decide, (am_hw_mem (i := 817) (by decide +kernel)), (am_hw_mem (i := 142) (by decide +kernel)), by decide +kernel, by decide +kernel, by decide +kernel⟩
theorem am_owX7_divided : am_own IX7_divided := ⟨by decide, (am_hw_mem (i := 852) (by decide +kernel)), (am_hw_mem (i := 142) (by decide +kernel)), by decide +kernel, by decide +kernel, by decide +kernel⟩
theorem am_owX7_picked : am_own IX7_picked := ⟨by decide, (am_hw_mem (i := 891) (by decide +kernel)), (am_hw_mem (i := 142) (by decide +kernel)), by decide +kernel, by decide +kernel, by decide +kernel⟩
theorem am_owX8_init : am_own IX8_init := ⟨by decide, (am_hw_mem (i := 165) (by decide +kernel)), (am_hw_mem (i := 126) (by decide +kernel)), by decide +kernel, by decide +kernel, by decide +kernel⟩
theorem am_owX8_compare : am_own IX8_compare := ⟨by decide, (am_hw_mem (i := 647) (by decide +kernel)), (am_hw_mem (i := 126) (by decide +kernel)), by decide +kernel, by decide +kernel, by decide +kernel⟩
theorem am_owX9_takes : am_own IX9_takes := ⟨by decide, (am_hw_mem (i := 1013) (by decide +kernel)), (am_hw_mem (i := 133) (by decide +kernel)), by decide +kernel, by decide +kernel, by decide +kernel⟩
theorem am_owX9_isUnknown : am_own IX9_isUnknown := ⟨by decide, (am_hw_mem (i := 1016) (by decide +kernel)), (am_hw_mem (i := 133) (by decide +kernel)), by decide +kernel, by decide +kernel, by decide +kernel⟩
theorem am_owX9_found : am_own IX9_found := ⟨by decide, (am_hw_mem (i := 1020) (by decide +kernel)), (am_hw_mem (i := 133) (by decide +kernel)), by decide +kernel, by decide +kernel, by decide +kernel⟩
theorem am_owX9_tally : am_own IX9_tally := ⟨by decide, (am_hw_mem (i := 1024) (by decide +kernel)), (am_hw_mem (i := 133) (by decide +kernel)), by decide +kernel, by decide +kernel, by decide +kernel⟩
theorem am_owX9_tallyPart : am_own IX9_tallyPart := ⟨by decide, (am_hw_mem (i := 1028) (by decide +kernel)), (am_hw_mem (i := 133) (by decide +kernel)), by decide +kernel, by decide +kernel, by decide +kernel⟩
theorem am_owX9_dropEqual : am_own IX9_dropEqual := ⟨by decide, (am_hw_mem (i := 1033) (by decide +kernel)), (am_hw_mem (i := 133) (by decide +kernel)), by decide +kernel, by decide +kernel, by decide +kernel⟩
theorem am_owX9_sortBases : am_own IX9_sortBases := ⟨by decide, (am_hw_mem (i := 1042) (by decide +kernel)), (am_hw_mem (i := 133) (by decide +kernel)), by decide +kernel, by decide +kernel, by decide +kernel⟩
theorem am_owX9_goodSets : am_own IX9_goodSets := ⟨by decide, (am_hw_mem (i := 1047) (by decide +kernel)), (am_hw_mem (i := 133) (by decide +kernel)), by decide +kernel, by decide +kernel, by decide +kernel⟩
theorem am_owX9_waysWithout : am_own IX9_waysWithout := ⟨by decide, (am_hw_mem (i := 1051) (by decide +kernel)), (am_hw_mem (i := 133) (by decide +kernel)), by decide +kernel, by decide +kernel, by decide +kernel⟩
theorem am_owX9_bitsOf : am_own IX9_bitsOf := ⟨by decide, (am_hw_mem (i := 1068) (by decide +kernel)), (am_hw_mem (i := 133) (by decide +kernel)), by decide +kernel, by decide +kernel, by decide +kernel⟩
theorem am_owX9_fill : am_own IX9_fill := ⟨by decide, (am_hw_mem (i := 1076) (by decide +kernel)), (am_hw_mem (i := 133) (by decide +kernel)), by decide +kernel, by decide +kernel, by decide +kernel⟩
theorem am_owX9_put : am_own IX9_put := ⟨by decide, (am_hw_mem (i := 1082) (by decide +kernel)), (am_hw_mem (i := 133) (by decide +kernel)), by decide +kernel, by decide +kernel, by decide +kernel⟩
theorem am_owX10_type : am_own IX10_type := ⟨by decide, (am_hw_mem (i := 478) (by decide +kernel)), (am_hw_mem (i := 124) (by decide +kernel)), by decide +kernel, by decide +kernel, by decide +kernel⟩
theorem am_owX10_read : am_own IX10_read := ⟨by decide, (am_hw_mem (i := 489) (by decide +kernel)), (am_hw_mem (i := 124) (by decide +kernel)), by decide +kernel, by decide +kernel, by decide +kernel⟩
theorem am_owX10_told : am_own IX10_told := ⟨by decide, (am_hw_mem (i := 665) (by decide +kernel)), (am_hw_mem (i := 124) (by decide +kernel)), by decide +kernel, by decide +kernel, by decide +kernel⟩
theorem am_owX10_part : am_own IX10_part := ⟨by decide, (am_hw_mem (i := 675) (by decide +kernel)), (am_hw_mem (i := 124) (by decide +kernel)), by decide +kernel, by decide +kernel, by decide +kernel⟩
theorem am_owX10_order : am_own IX10_order := ⟨by decide, (am_hw_mem (i := 679) (by decide +kernel)), (am_hw_mem (i := 124) (by decide +kernel)), by decide +kernel, by decide +kernel, by decide +kernel⟩
theorem am_owX10_join : am_own IX10_join := ⟨by decide, (am_hw_mem (i := 684) (by decide +kernel)), (am_hw_mem (i := 124) (by decide +kernel)), by decide +kernel, by decide +kernel, by decide +kernel⟩
theorem am_owX10_print : am_own IX10_print := ⟨by decide, (am_hw_mem (i := 694) (by decide +kernel)), (am_hw_mem (i := 124) (by decide +kernel)), by decide +kernel, by decide +kernel, by decide +kernel⟩
theorem am_owX10_out : am_own IX10_out := ⟨by decide, (am_hw_mem (i := 738) (by decide +kernel)), (am_hw_mem (i := 124) (by decide +kernel)), by decide +kernel, by decide +kernel, by decide +kernel⟩
theorem am_owX10_match : am_own IX10_match := ⟨by decide, (am_hw_mem (i := 746) (by decide +kernel)), (am_hw_mem (i := 124) (by decide +kernel)), by decide +kernel, by decide +kernel, by decide +kernel⟩
theorem am_owX10_matched : am_own IX10_matched := ⟨by decide, (am_hw_mem (i := 905) (by decide +kernel)), (am_hw_mem (i := 124) (by decide +kernel)), by decide +kernel, by decide +kernel, by decide +kernel⟩
theorem am_owX10_instance : am_own IX10_instance := ⟨by decide, (am_hw_mem (i := 930) (by decide +kernel)), (am_hw_mem (i := 124) (by decide +kernel)), by decide +kernel, by decide +kernel, by decide +kernel⟩
theorem am_owX10_system : am_own IX10_system := ⟨by decide, (am_hw_mem (i := 943) (by decide +kernel)), (am_hw_mem (i := 124) (by decide +kernel)), by decide +kernel, by decide +kernel, by decide +kernel⟩
theorem am_owX10_number : am_own IX10_number := ⟨by decide, (am_hw_mem (i := 953) (by decide +kernel)), (am_hw_mem (i := 124) (by decide +kernel)), by decide +kernel, by decide +kernel, by decide +kernel⟩
theorem am_owX10_solve : am_own IX10_solve := ⟨by decide, (am_hw_mem (i := 965) (by decide +kernel)), (am_hw_mem (i := 124) (by decide +kernel)), by decide +kernel, by decide +kernel, by decide +kernel⟩
theorem am_owX10_solution : am_own IX10_solution := ⟨by decide, (am_hw_mem (i := 998) (by decide +kernel)), (am_hw_mem (i := 124) (by decide +kernel)), by decide +kernel, by decide +kernel, by decide +kernel⟩
theorem am_owX10_unify : am_own IX10_unify := ⟨by decide, (am_hw_mem (i := 1010) (by decide +kernel)), (am_hw_mem (i := 124) (by decide +kernel)), by decide +kernel, by decide +kernel, by decide +kernel⟩
theorem am_owX10_bases : am_own IX10_bases := ⟨by decide, (am_hw_mem (i := 1056) (by decide +kernel)), (am_hw_mem (i := 124) (by decide +kernel)), by decide +kernel, by decide +kernel, by decide +kernel⟩
theorem am_owX10_base : am_own IX10_base := ⟨by decide, (am_hw_mem (i := 1060) (by decide +kernel)), (am_hw_mem (i := 124) (by decide +kernel)), by decide +kernel, by decide +kernel, by decide +kernel⟩
theorem am_owX10_set : am_own IX10_set := ⟨by decide, (am_hw_mem (i := 1064) (by decide +kernel)), (am_hw_mem (i := 124) (by decide +kernel)), by decide +kernel, by decide +kernel, by decide +kernel⟩
theorem am_owX10_unified : am_own IX10_unified := ⟨by decide, (am_hw_mem (i := 1072) (by decide +kernel)), (am_hw_mem (i := 124) (by decide +kernel)), by decide +kernel, by decide +kernel, by decide +kernel⟩
theorem am_owX10_isSlot : am_own IX10_isSlot := ⟨by decide, (am_hw_mem (i := 492) (by decide +kernel)), (am_hw_mem (i := 124) (by decide +kernel)), by decide +kernel, by decide +kernel, by decide +kernel⟩
theorem am_owX10_isSymbol : am_own IX10_isSymbol := ⟨by decide, (am_hw_mem (i := 687) (by decide +kernel)), (am_hw_mem (i := 124) (by decide +kernel)), by decide +kernel, by decide +kernel, by decide +kernel⟩
theorem am_owX10_kept : am_own IX10_kept := ⟨by decide, (am_hw_mem (i := 661) (by decide +kernel)), (am_hw_mem (i := 124) (by decide +kernel)), by decide +kernel, by decide +kernel, by decide +kernel⟩
theorem am_owX11_in : am_own IX11_in := ⟨by decide, (am_hw_mem (i := 1262) (by decide +kernel)), (am_hw_mem (i := 134) (by decide +kernel)), by decide +kernel, by decide +kernel, by decide +kernel⟩
theorem am_owX11_begin : am_own IX11_begin := ⟨by decide, (am_hw_mem (i := 1277) (by decide +kernel)), (am_hw_mem (i := 134) (by decide +kernel)), by decide +kernel, by decide +kernel, by decide +kernel⟩
theorem am_owX11_copy : am_own IX11_copy := ⟨by decide, (am_hw_mem (i := 1326) (by decide +kernel)), (am_hw_mem (i := 134) (by decide +kernel)), by decide +kernel, by decide +kernel, by decide +kernel⟩
theorem am_owX11_head : am_own IX11_head := ⟨by decide, (am_hw_mem (i := 1301) (by decide +kernel)), (am_hw_mem (i := 134) (by decide +kernel)), by decide +kernel, by decide +kernel, by decide +kernel⟩
theorem am_owX11_partAt : am_own IX11_partAt := ⟨by decide, (am_hw_mem (i := 1334) (by decide +kernel)), (am_hw_mem (i := 134) (by decide +kernel)), by decide +kernel, by decide +kernel, by decide +kernel⟩
theorem am_owX11_ordered : am_own IX11_ordered := ⟨by decide, (am_hw_mem (i := 1338) (by decide +kernel)), (am_hw_mem (i := 134) (by decide +kernel)), by decide +kernel, by decide +kernel, by decide +kernel⟩
theorem am_owX11_put : am_own IX11_put := ⟨by decide, (am_hw_mem (i := 1317) (by decide +kernel)), (am_hw_mem (i := 134) (by decide +kernel)), by decide +kernel, by decide +kernel, by decide +kernel⟩
theorem am_owX11_made : am_own IX11_made := ⟨by decide, (am_hw_mem (i := 1321) (by decide +kernel)), (am_hw_mem (i := 134) (by decide +kernel)), by decide +kernel, by decide +kernel, by decide +kernel⟩
theorem am_owX11_joined : am_own IX11_joined := ⟨by decide, (am_hw_mem (i := 1330) (by decide +kernel)), (am_hw_mem (i := 134) (by decide +kernel)), by decide +kernel, by decide +kernel, by decide +kernel⟩
theorem am_owX11_fits : am_own IX11_fits := ⟨by decide, (am_hw_mem (i := 1346) (by decide +kernel)), (am_hw_mem (i := 134) (by decide +kernel)), by decide +kernel, by decide +kernel, by decide +kernel⟩
theorem am_owX11_store : am_own IX11_store := ⟨by decide, (am_hw_mem (i := 1342) (by decide +kernel)), (am_hw_mem (i := 134) (by decide +kernel)), by decide +kernel, by decide +kernel, by decide +kernel⟩
theorem am_owX11_type : am_own IX11_type := ⟨by decide, (am_hw_mem (i := 1258) (by decide +kernel)), (am_hw_mem (i := 134) (by decide +kernel)), by decide +kernel, by decide +kernel, by decide +kernel⟩
theorem am_owX11_next : am_own IX11_next := ⟨by decide, (am_hw_mem (i := 1293) (by decide +kernel)), (am_hw_mem (i := 134) (by decide +kernel)), by decide +kernel, by decide +kernel, by decide +kernel⟩
theorem am_owX11_fail : am_own IX11_fail := ⟨by decide, (am_hw_mem (i := 1313) (by decide +kernel)), (am_hw_mem (i := 134) (by decide +kernel)), by decide +kernel, by decide +kernel, by decide +kernel⟩
theorem am_owX11_readTerm : am_own IX11_readTerm := ⟨by decide, (am_hw_mem (i := 1281) (by decide +kernel)), (am_hw_mem (i := 134) (by decide +kernel)), by decide +kernel, by decide +kernel, by decide +kernel⟩
theorem am_owX11_readProduct : am_own IX11_readProduct := ⟨by decide, (am_hw_mem (i := 1285) (by decide +kernel)), (am_hw_mem (i := 134) (by decide +kernel)), by decide +kernel, by decide +kernel, by decide +kernel⟩
theorem am_owX11_readAtom : am_own IX11_readAtom := ⟨by decide, (am_hw_mem (i := 1289) (by decide +kernel)), (am_hw_mem (i := 134) (by decide +kernel)), by decide +kernel, by decide +kernel, by decide +kernel⟩
theorem am_owX11_readFunction : am_own IX11_readFunction := ⟨by decide, (am_hw_mem (i := 1309) (by decide +kernel)), (am_hw_mem (i := 134) (by decide +kernel)), by decide +kernel, by decide +kernel, by decide +kernel⟩
theorem am_owX11_isSlot : am_own IX11_isSlot := ⟨by decide, (am_hw_mem (i := 1272) (by decide +kernel)), (am_hw_mem (i := 134) (by decide +kernel)), by decide +kernel, by decide +kernel, by decide +kernel⟩
theorem am_owX11_read : am_own IX11_read := ⟨by decide, (am_hw_mem (i := 1269) (by decide +kernel)), (am_hw_mem (i := 134) (by decide +kernel)), by decide +kernel, by decide +kernel, by decide +kernel⟩
theorem am_owX11_variablesIn : am_own IX11_variablesIn := ⟨by decide, (am_hw_mem (i := 1355) (by decide +kernel)), (am_hw_mem (i := 134) (by decide +kernel)), by decide +kernel, by decide +kernel, by decide +kernel⟩
theorem am_owX11_bitsOf : am_own IX11_bitsOf := ⟨by decide, (am_hw_mem (i := 1358) (by decide +kernel)), (am_hw_mem (i := 134) (by decide +kernel)), by decide +kernel, by decide +kernel, by decide +kernel⟩
theorem am_owX11_told : am_own IX11_told := ⟨by decide, (am_hw_mem (i := 1350) (by decide +kernel)), (am_hw_mem (i := 134) (by decide +kernel)), by decide +kernel, by decide +kernel, by decide +kernel⟩
theorem am_owX11_part : am_own IX11_part := ⟨by decide, (am_hw_mem (i := 1362) (by decide +kernel)), (am_hw_mem (i := 134) (by decide +kernel)), by decide +kernel, by decide +kernel, by decide +kernel⟩
theorem am_owX11_order : am_own IX11_order := ⟨by decide, (am_hw_mem (i := 1366) (by decide +kernel)), (am_hw_mem (i := 134) (by decide +kernel)), by decide +kernel, by decide +kernel, by decide +kernel⟩
theorem am_owX11_join : am_own IX11_join := ⟨by decide, (am_hw_mem (i := 1370) (by decide +kernel)), (am_hw_mem (i := 134) (by decide +kernel)), by decide +kernel, by decide +kernel, by decide +kernel⟩
theorem am_owX11_write : am_own IX11_write := ⟨by decide, (am_hw_mem (i := 1382) (by decide +kernel)), (am_hw_mem (i := 134) (by decide +kernel)), by decide +kernel, by decide +kernel, by decide +kernel⟩
theorem am_owX11_writeTerm : am_own IX11_writeTerm := ⟨by decide, (am_hw_mem (i := 1378) (by decide +kernel)), (am_hw_mem (i := 134) (by decide +kernel)), by decide +kernel, by decide +kernel, by decide +kernel⟩
theorem am_owX11_print : am_own IX11_print := ⟨by decide, (am_hw_mem (i := 1374) (by decide +kernel)), (am_hw_mem (i := 134) (by decide +kernel)), by decide +kernel, by decide +kernel, by decide +kernel⟩
theorem am_owX11_out : am_own IX11_out := ⟨by decide, (am_hw_mem (i := 1386) (by decide +kernel)), (am_hw_mem (i := 134) (by decide +kernel)), by decide +kernel, by decide +kernel, by decide +kernel⟩
theorem am_owX11_goal : am_own IX11_goal := ⟨by decide, (am_hw_mem (i := 1422) (by decide +kernel)), (am_hw_mem (i := 134) (by decide +kernel)), by decide +kernel, by decide +kernel, by decide +kernel⟩
theorem am_owX11_nameOf : am_own IX11_nameOf := ⟨by decide, (am_hw_mem (i := 1398) (by decide +kernel)), (am_hw_mem (i := 134) (by decide +kernel)), by decide +kernel, by decide +kernel, by decide +kernel⟩
theorem am_owX11_matcherAt : am_own IX11_matcherAt := ⟨by decide, (am_hw_mem (i := 1410) (by decide +kernel)), (am_hw_mem (i := 134) (by decide +kernel)), by decide +kernel, by decide +kernel, by decide +kernel⟩
theorem am_owX11_found : am_own IX11_found := ⟨by decide, (am_hw_mem (i := 1406) (by decide +kernel)), (am_hw_mem (i := 134) (by decide +kernel)), by decide +kernel, by decide +kernel, by decide +kernel⟩
theorem am_owX11_work : am_own IX11_work := ⟨by decide, (am_hw_mem (i := 1402) (by decide +kernel)), (am_hw_mem (i := 134) (by decide +kernel)), by decide +kernel, by decide +kernel, by decide +kernel⟩
theorem am_owX11_solveOne : am_own IX11_solveOne := ⟨by decide, (am_hw_mem (i := 1394) (by decide +kernel)), (am_hw_mem (i := 134) (by decide +kernel)), by decide +kernel, by decide +kernel, by decide +kernel⟩
theorem am_owX11_solveParts : am_own IX11_solveParts := ⟨by decide, (am_hw_mem (i := 1414) (by decide +kernel)), (am_hw_mem (i := 134) (by decide +kernel)), by decide +kernel, by decide +kernel, by decide +kernel⟩
theorem am_owX11_isFirst : am_own IX11_isFirst := ⟨by decide, (am_hw_mem (i := 1418) (by decide +kernel)), (am_hw_mem (i := 134) (by decide +kernel)), by decide +kernel, by decide +kernel, by decide +kernel⟩
theorem am_owX11_isLow : am_own IX11_isLow := ⟨by decide, (am_hw_mem (i := 1430) (by decide +kernel)), (am_hw_mem (i := 134) (by decide +kernel)), by decide +kernel, by decide +kernel, by decide +kernel⟩
theorem am_owX11_without : am_own IX11_without := ⟨by decide, (am_hw_mem (i := 1426) (by decide +kernel)), (am_hw_mem (i := 134) (by decide +kernel)), by decide +kernel, by decide +kernel, by decide +kernel⟩
theorem am_owX11_orderMatchers : am_own IX11_orderMatchers := ⟨by decide, (am_hw_mem (i := 1434) (by decide +kernel)), (am_hw_mem (i := 134) (by decide +kernel)), by decide +kernel, by decide +kernel, by decide +kernel⟩
theorem am_owX11_match : am_own IX11_match := ⟨by decide, (am_hw_mem (i := 1390) (by decide +kernel)), (am_hw_mem (i := 134) (by decide +kernel)), by decide +kernel, by decide +kernel, by decide +kernel⟩
theorem am_owX11_matched : am_own IX11_matched := ⟨by decide, (am_hw_mem (i := 1438) (by decide +kernel)), (am_hw_mem (i := 134) (by decide +kernel)), by decide +kernel, by decide +kernel, by decide +kernel⟩
theorem am_owX11_filled : am_own IX11_filled := ⟨by decide, (am_hw_mem (i := 1451) (by decide +kernel)), (am_hw_mem (i := 134) (by decide +kernel)), by decide +kernel, by decide +kernel, by decide +kernel⟩
theorem am_owX11_fill : am_own IX11_fill := ⟨by decide, (am_hw_mem (i := 1447) (by decide +kernel)), (am_hw_mem (i := 134) (by decide +kernel)), by decide +kernel, by decide +kernel, by decide +kernel⟩
theorem am_owX11_instance : am_own IX11_instance := ⟨by decide, (am_hw_mem (i := 1443) (by decide +kernel)), (am_hw_mem (i := 134) (by decide +kernel)), by decide +kernel, by decide +kernel, by decide +kernel⟩
theorem am_owX11_system : am_own IX11_system := ⟨by decide, (am_hw_mem (i := 1456) (by decide +kernel)), (am_hw_mem (i := 134) (by decide +kernel)), by decide +kernel, by decide +kernel, by decide +kernel⟩
theorem am_owX11_number : am_own IX11_number := ⟨by decide, (am_hw_mem (i := 1462) (by decide +kernel)), (am_hw_mem (i := 134) (by decide +kernel)), by decide +kernel, by decide +kernel, by decide +kernel⟩
theorem am_owX11_solves : am_own IX11_solves := ⟨by decide, (am_hw_mem (i := 1477) (by decide +kernel)), (am_hw_mem (i := 134) (by decide +kernel)), by decide +kernel, by decide +kernel, by decide +kernel⟩
theorem am_owX11_isLeast : am_own IX11_isLeast := ⟨by decide, (am_hw_mem (i := 1481) (by decide +kernel)), (am_hw_mem (i := 134) (by decide +kernel)), by decide +kernel, by decide +kernel, by decide +kernel⟩
theorem am_owX11_give : am_own IX11_give := ⟨by decide, (am_hw_mem (i := 1473) (by decide +kernel)), (am_hw_mem (i := 134) (by decide +kernel)), by decide +kernel, by decide +kernel, by decide +kernel⟩
theorem am_owX11_orderSolutions : am_own IX11_orderSolutions := ⟨by decide, (am_hw_mem (i := 1485) (by decide +kernel)), (am_hw_mem (i := 134) (by decide +kernel)), by decide +kernel, by decide +kernel, by decide +kernel⟩
theorem am_owX11_solve : am_own IX11_solve := ⟨by decide, (am_hw_mem (i := 1468) (by decide +kernel)), (am_hw_mem (i := 134) (by decide +kernel)), by decide +kernel, by decide +kernel, by decide +kernel⟩
theorem am_owX11_solution : am_own IX11_solution := ⟨by decide, (am_hw_mem (i := 1489) (by decide +kernel)), (am_hw_mem (i := 134) (by decide +kernel)), by decide +kernel, by decide +kernel, by decide +kernel⟩
theorem am_owX11_partsBy : am_own IX11_partsBy := ⟨by decide, (am_hw_mem (i := 1501) (by decide +kernel)), (am_hw_mem (i := 134) (by decide +kernel)), by decide +kernel, by decide +kernel, by decide +kernel⟩
theorem am_owX11_partBy : am_own IX11_partBy := ⟨by decide, (am_hw_mem (i := 1505) (by decide +kernel)), (am_hw_mem (i := 134) (by decide +kernel)), by decide +kernel, by decide +kernel, by decide +kernel⟩
theorem am_owX11_isPlain : am_own IX11_isPlain := ⟨by decide, (am_hw_mem (i := 1497) (by decide +kernel)), (am_hw_mem (i := 134) (by decide +kernel)), by decide +kernel, by decide +kernel, by decide +kernel⟩
theorem am_owX11_weigh : am_own IX11_weigh := ⟨by decide, (am_hw_mem (i := 1513) (by decide +kernel)), (am_hw_mem (i := 134) (by decide +kernel)), by decide +kernel, by decide +kernel, by decide +kernel⟩
theorem am_owX11_gather : am_own IX11_gather := ⟨by decide, (am_hw_mem (i := 1509) (by decide +kernel)), (am_hw_mem (i := 134) (by decide +kernel)), by decide +kernel, by decide +kernel, by decide +kernel⟩
theorem am_owX11_isLeastBase : am_own IX11_isLeastBase := ⟨by decide, (am_hw_mem (i := 1525) (by decide +kernel)), (am_hw_mem (i := 134) (by decide +kernel)), by decide +kernel, by decide +kernel, by decide +kernel⟩
theorem am_owX11_giveBase : am_own IX11_giveBase := ⟨by decide, (am_hw_mem (i := 1521) (by decide +kernel)), (am_hw_mem (i := 134) (by decide +kernel)), by decide +kernel, by decide +kernel, by decide +kernel⟩
theorem am_owX11_orderBases : am_own IX11_orderBases := ⟨by decide, (am_hw_mem (i := 1529) (by decide +kernel)), (am_hw_mem (i := 134) (by decide +kernel)), by decide +kernel, by decide +kernel, by decide +kernel⟩
theorem am_owX11_groundOf : am_own IX11_groundOf := ⟨by decide, (am_hw_mem (i := 1533) (by decide +kernel)), (am_hw_mem (i := 134) (by decide +kernel)), by decide +kernel, by decide +kernel, by decide +kernel⟩
theorem am_owX11_isGood : am_own IX11_isGood := ⟨by decide, (am_hw_mem (i := 1537) (by decide +kernel)), (am_hw_mem (i := 134) (by decide +kernel)), by decide +kernel, by decide +kernel, by decide +kernel⟩
theorem am_owX11_findBases : am_own IX11_findBases := ⟨by decide, (am_hw_mem (i := 1517) (by decide +kernel)), (am_hw_mem (i := 134) (by decide +kernel)), by decide +kernel, by decide +kernel, by decide +kernel⟩
theorem am_owX11_unify : am_own IX11_unify := ⟨by decide, (am_hw_mem (i := 1493) (by decide +kernel)), (am_hw_mem (i := 134) (by decide +kernel)), by decide +kernel, by decide +kernel, by decide +kernel⟩
theorem am_owX11_bases : am_own IX11_bases := ⟨by decide, (am_hw_mem (i := 1541) (by decide +kernel)), (am_hw_mem (i := 134) (by decide +kernel)), by decide +kernel, by decide +kernel, by decide +kernel⟩
theorem am_owX11_base : am_own IX11_base := ⟨by decide, (am_hw_mem (i := 1546) (by decide +kernel)), (am_hw_mem (i := 134) (by decide +kernel)), by decide +kernel, by decide +kernel, by decide +kernel⟩
theorem am_owX11_set : am_own IX11_set := ⟨by decide, (am_hw_mem (i := 1550) (by decide +kernel)), (am_hw_mem (i := 134) (by decide +kernel)), by decide +kernel, by decide +kernel, by decide +kernel⟩
theorem am_owX11_unified : am_own IX11_unified := ⟨by decide, (am_hw_mem (i := 1554) (by decide +kernel)), (am_hw_mem (i := 134) (by decide +kernel)), by decide +kernel, by decide +kernel, by decide +kernel⟩
theorem am_owX11_putFor : am_own IX11_putFor := ⟨by decide, (am_hw_mem (i := 1558) (by decide +kernel)), (am_hw_mem (i := 134) (by decide +kernel)), by decide +kernel, by decide +kernel, by decide +kernel⟩
theorem am_owJ6_compare_7cf53 : am_own IJ6_compare_7cf53 := ⟨by decide, (am_hw_mem (i := 650) (by decide +kernel)), (am_hw_mem (i := 141) (by decide +kernel)), by decide +kernel, by decide +kernel, by decide +kernel⟩
theorem am_owJ6_bitCount_0f7a4 : am_own IJ6_bitCount_0f7a4 := ⟨by decide, (am_hw_mem (i := 668) (by decide +kernel)), (am_hw_mem (i := 141) (by decide +kernel)), by decide +kernel, by decide +kernel, by decide +kernel⟩
theorem am_owJ13_compare_74951 : am_own IJ13_compare_74951 := ⟨by decide, (am_hw_mem (i := 881) (by decide +kernel)), (am_hw_mem (i := 143) (by decide +kernel)), by decide +kernel, by decide +kernel, by decide +kernel⟩
theorem am_owJ0_length_8abf5 : am_own IJ0_length_8abf5 := ⟨by decide, (am_hw_mem (i := 535) (by decide +kernel)), (am_hw_mem (i := 135) (by decide +kernel)), by decide +kernel, by decide +kernel, by decide +kernel⟩
theorem am_owJ0_charAt_5068e : am_own IJ0_charAt_5068e := ⟨by decide, (am_hw_mem (i := 714) (by decide +kernel)), (am_hw_mem (i := 135) (by decide +kernel)), by decide +kernel, by decide +kernel, by decide +kernel⟩
theorem am_owJ0_indexOf_0f7a4 : am_own IJ0_indexOf_0f7a4 := ⟨by decide, (am_hw_mem (i := 521) (by decide +kernel)), (am_hw_mem (i := 135) (by decide +kernel)), by decide +kernel, by decide +kernel, by decide +kernel⟩
