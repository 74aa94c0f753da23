/-! ===== MATCHERS: the mathematics ===== -/
/-- where one stands in a list; its length, if nowhere -/
def ixN (a : Nat) : List Nat → Nat
  | [] => 0
  | b :: l => if b = a then 0 else ixN a l + 1
theorem ixN_le (a : Nat) : ∀ l : List Nat, ixN a l ≤ l.length
  | [] => Nat.le_refl _
  | b :: l => by
    have := ixN_le a l
    simp only [ixN, List.length_cons]
    split <;> omega
theorem ixN_get {a : Nat} : ∀ {l : List Nat}, a ∈ l → l[ixN a l]? = some a
  | [], h => by simp at h
  | b :: l, h => by
    simp only [ixN]
    by_cases e : b = a
    · rw [if_pos e, e]; rfl
    · rw [if_neg e, List.getElem?_cons_succ]
      exact ixN_get (by rcases List.mem_cons.mp h with q | q; exact absurd q.symm e; exact q)
theorem ixN_no {a : Nat} : ∀ {l : List Nat}, a ∉ l → ixN a l = l.length
  | [], _ => rfl
  | b :: l, h => by
    simp only [ixN, List.length_cons]
    rw [if_neg (fun e => h (by rw [e]; simp)), ixN_no (fun z => h (List.mem_cons_of_mem _ z))]
theorem ixN_at {l : List Nat} (hn : l.Nodup) {i a : Nat} (h : l[i]? = some a) : ixN a l = i := by
  have h1 := ixN_get (get_mem h)
  have hi := get_lt h
  have hj := get_lt h1
  rw [List.getElem?_eq_getElem hi] at h
  rw [List.getElem?_eq_getElem hj] at h1
  have e : l[ixN a l] = l[i] := by rw [Option.some.inj h1, Option.some.inj h]
  refine Classical.byContradiction fun c => ?_
  rcases Nat.lt_or_gt_of_ne c with q | q
  · exact (List.pairwise_iff_getElem.mp hn _ _ hj hi q) e
  · exact (List.pairwise_iff_getElem.mp hn _ _ hi hj q) e.symm
/-- the variables of a pattern -/
def nms (b : Nat) : List Nat := (List.range 22).filter (fun a => b.testBit a)
theorem nms_mem {b a : Nat} : a ∈ nms b ↔ a < 22 ∧ b.testBit a = true := by
  unfold nms
  rw [List.mem_filter, List.mem_range]
theorem nms_sorted (b : Nat) : (nms b).Pairwise (· < ·) := List.Pairwise.filter _ List.pairwise_lt_range
theorem nms_nd (b : Nat) : (nms b).Nodup := List.Pairwise.imp (fun h => Nat.ne_of_lt h) (nms_sorted b)
def asg (ns : List Nat) (M : List Tm) (a : Nat) : Tm := M.getD (ixN a ns) (node 0 a [])
theorem asg_in {ns : List Nat} {M : List Tm} {i a : Nat} {y : Tm} (hn : ns.Nodup) (h : ns[i]? = some a) (hM : M[i]? = some y) : asg ns M a = y := by
  unfold asg
  rw [ixN_at hn h, List.getD_eq_getElem?_getD, hM]
  rfl
theorem asg_out {ns : List Nat} {M : List Tm} {a : Nat} (hl : M.length = ns.length) (h : a ∉ ns) : asg ns M a = node 0 a [] := by
  unfold asg
  rw [ixN_no h, List.getD_eq_getElem?_getD, List.getElem?_eq_none (by omega)]
  rfl
/-- a list of ground terms -/
def gnd (M : List Tm) : Prop := ∀ y ∈ M, Can y ∧ vb y = 0
theorem asg_can {ns : List Nat} {M : List Tm} (hl : M.length = ns.length) (hM : gnd M) {a : Nat} (ha : a < 22) : Can (asg ns M a) := by
  unfold asg
  by_cases h : ixN a ns < M.length
  · rw [List.getD_eq_getElem?_getD, List.getElem?_eq_getElem h]
    exact (hM _ (List.getElem_mem h)).1
  · rw [List.getD_eq_getElem?_getD, List.getElem?_eq_none (by omega)]
    exact can_v ha
def isM (P t : Tm) (M : List Tm) : Prop := M.length = (nms (vb P)).length ∧ gnd M ∧ sub (asg (nms (vb P)) M) P = t
/-! sorted lists of the same are the same -/
theorem perm_so : ∀ {L R : List Tm}, (∀ y ∈ L, wf y) → so L → so R → L.Perm R → L = R
  | [], R, _, _, _, h => by rw [List.Perm.nil_eq h]
  | a :: L, [], _, _, _, h => by have := h.length_eq; simp at this
  | a :: L, b :: R, hw, hL, hR, h => by
    have hL2 := List.pairwise_cons.mp hL
    have hR2 := List.pairwise_cons.mp hR
    have hwb : wf b := hw b (h.mem_iff.mpr List.mem_cons_self)
    have e : a = b := by
      refine Classical.byContradiction fun c => ?_
      have h1 : a ∈ R := by
        rcases List.mem_cons.mp (h.mem_iff.mp List.mem_cons_self) with q | q
        · exact absurd q c
        · exact q
      have h2 : b ∈ L := by
        rcases List.mem_cons.mp (h.mem_iff.mpr List.mem_cons_self) with q | q
        · exact absurd q.symm c
        · exact q
      rcases tlt_total (hw a List.mem_cons_self) hwb c with q | q
      · exact hR2.1 a h1 q
      · exact hL2.1 b h2 q
    subst e
    rw [perm_so (fun y hy => hw y (List.mem_cons_of_mem _ hy)) hL2.2 hR2.2 (List.Perm.cons_inv h)]
section MA
variable {θ : Nat → Tm}
theorem loc_k {k a : Nat} {L : List Tm} (h : loc k a L) (hk : k = 3 ∨ k = 4) : a = 0 ∧ 2 ≤ L.length ∧ so L ∧ ∀ y ∈ L, kd y ≠ k := by
  rcases h with h | h | h | h
  · omega
  · omega
  · omega
  · exact ⟨h.2.1, h.2.2.1, h.2.2.2.1, h.2.2.2.2⟩
theorem sub_kind {x : Tm} (hx : Can x) (h : kd x ≠ 0) (hθ : ∀ v, v < 22 → Can (θ v)) : kd (sub θ x) = kd x := by
  rw [sub_eq hx, if_neg h]
  by_cases h1 : kd x = 1
  · rw [if_pos h1]
  · rw [if_neg h1]
    by_cases h2 : kd x = 2
    · rw [if_pos h2, kd_node, h2]
    · rw [if_neg h2]
      obtain ⟨_, l, c⟩ := Can_pts hx
      have hk := (Can_kd hx).1
      have hk34 : kd x = 3 ∨ kd x = 4 := by omega
      have hl := loc_k l hk34
      rw [joinT_two hk34 (fun z hz => by
        obtain ⟨w, hw, e⟩ := List.mem_map.mp hz
        rw [← e]; exact sub_can hθ w (c w hw)) (by rw [List.length_map]; exact hl.2.1), kd_node]
/-- a sum or product: its parts are those of what is put, in some order -/
theorem loose_iff {k : Nat} {L : List Tm} {t : Tm} (hk : k = 3 ∨ k = 4) (hl : loc k 0 L) (hc : ∀ y ∈ L, Can y) (hθ : ∀ v, v < 22 → Can (θ v)) (ht : Can t) : sub θ (node k 0 L) = t ↔ kd t = k ∧ (flK k (L.map (sub θ))).Perm (pts t) := by
  have hx := Can_mk hl hc
  have hw : ∀ y ∈ L, wf y := fun y hy => Can_wf (hc y hy)
  have hcm : ∀ z ∈ L.map (sub θ), Can z := fun z hz => by
    obtain ⟨w, hw, e⟩ := List.mem_map.mp hz
    rw [← e]; exact sub_can hθ w (hc w hw)
  have hlk := loc_k hl hk
  have e : sub θ (node k 0 L) = node k 0 (srt (flK k (L.map (sub θ)))) := by
    rw [sub_eq hx, kd_node, pts_node hw, if_neg (by omega), if_neg (by omega), if_neg (by omega), joinT_two hk hcm (by rw [List.length_map]; exact hlk.2.1)]
  have hwf : ∀ y ∈ flK k (L.map (sub θ)), wf y := fun y hy => Can_wf (flK_can hk hcm y hy).1
  have hws : ∀ y ∈ srt (flK k (L.map (sub θ))), wf y := fun y hy => hwf y (srt_mem.mp hy)
  rw [e]
  constructor
  · intro h
    rw [← h, kd_node, pts_node hws]
    exact ⟨rfl, (srt_perm _).symm⟩
  · rintro ⟨h1, h2⟩
    obtain ⟨et, lt, ct⟩ := Can_pts ht
    have hlt := loc_k (h1 ▸ lt) hk
    rw [et, h1, hlt.1, perm_so hws (srt_so hwf) hlt.2.2.1 ((srt_perm _).trans h2)]
theorem fun_iff {a : Nat} {L : List Tm} {t : Tm} (hl : loc 2 a L) (hc : ∀ y ∈ L, Can y) (hθ : ∀ v, v < 22 → Can (θ v)) (ht : Can t) : sub θ (node 2 a L) = t ↔ kd t = 2 ∧ nm t = a ∧ L.map (sub θ) = pts t := by
  have hx := Can_mk hl hc
  have hw : ∀ y ∈ L, wf y := fun y hy => Can_wf (hc y hy)
  have hws : ∀ y ∈ L.map (sub θ), wf y := fun z hz => by
    obtain ⟨w, hw, e⟩ := List.mem_map.mp hz
    rw [← e]; exact Can_wf (sub_can hθ w (hc w hw))
  rw [sub_eq hx, kd_node, nm_node, pts_node hw, if_neg (by omega), if_neg (by omega), if_pos rfl]
  constructor
  · intro h
    rw [← h, kd_node, nm_node, pts_node hws]
    exact ⟨rfl, rfl, rfl⟩
  · rintro ⟨h1, h2, h3⟩
    obtain ⟨et, _, _⟩ := Can_pts ht
    rw [et, h1, h2, h3]
/-- what is put for a variable is no longer than the whole -/
theorem len_var (hθ : ∀ v, v < 22 → Can (θ v)) : ∀ x, Can x → ∀ a, (vb x).testBit a = true → (θ a).length ≤ (sub θ x).length := by
  refine can_ind fun k n L hl hc ih a ha => ?_
  have hx := Can_mk hl hc
  have hw : ∀ y ∈ L, wf y := fun y hy => Can_wf (hc y hy)
  by_cases h0 : k = 0
  · have hv := vb_var hx (by rw [kd_node]; exact h0)
    rw [nm_node] at hv
    rw [hv, tb_pow] at ha
    have : n = a := by simpa using ha
    rw [sub_eq hx, kd_node, if_pos h0, nm_node, this]
    exact Nat.le_refl _
  · have hcm : ∀ z ∈ L.map (sub θ), Can z := fun z hz => by
      obtain ⟨w, hw, e⟩ := List.mem_map.mp hz
      rw [← e]; exact sub_can hθ w (hc w hw)
    rw [vb_node, if_neg h0, Nat.zero_or] at ha
    have key : ∀ (M : List Tm), (vb M.flatten).testBit a = true → ∃ y ∈ M, (vb y).testBit a = true := by
      intro M
      induction M with
      | nil => intro h; simp [vb] at h
      | cons y M ihM =>
        intro h
        rw [List.flatten_cons, vb_app, Nat.testBit_or, Bool.or_eq_true] at h
        rcases h with h | h
        · exact ⟨y, List.mem_cons_self, h⟩
        · obtain ⟨z, z1, z2⟩ := ihM h
          exact ⟨z, List.mem_cons_of_mem _ z1, z2⟩
    obtain ⟨y, y1, y2⟩ := key L ha
    have i1 := ih y y1 a y2
    have hm : sub θ y ∈ L.map (sub θ) := List.mem_map.mpr ⟨y, y1, rfl⟩
    rw [sub_eq hx, kd_node, nm_node, pts_node hw, if_neg h0]
    rcases hl with h | h | h | h
    · exact absurd h.1 h0
    · rw [h.2.2] at y1; simp at y1
    · rw [if_neg (by omega), if_pos h.1]
      have := part_len (k := 2) (a := n) hm
      omega
    · rw [if_neg (by omega), if_neg (by omega), joinT_two h.1 hcm (by rw [List.length_map]; omega), node_len, perm_flen (srt_perm _)]
      have := flK_flen (k := k) hcm hm
      omega
/-- a ground term of any length -/
def tower : Nat → Tm
  | 0 => node 1 0 []
  | n + 1 => node 2 0 [tower n]
theorem tower_ok : ∀ n, Can (tower n) ∧ vb (tower n) = 0 ∧ n < (tower n).length
  | 0 => ⟨can_c (by omega), rfl, by simp [tower, node]⟩
  | n + 1 => by
    obtain ⟨h1, h2, h3⟩ := tower_ok n
    refine ⟨Can_mk (Or.inr (Or.inr (Or.inl ⟨rfl, by omega, by simp, by simp⟩))) (fun y hy => by rw [List.mem_singleton.mp hy]; exact h1), ?_, ?_⟩
    · simp only [tower]
      rw [vb_node, if_neg (by omega)]
      simpa using h2
    · simp only [tower]
      rw [node_len]
      simp
      omega
/-- bindings that leave no choice bind all -/
theorem all_bound {P t : Tm} (hP : Can P) {β : Nat → Option Tm} (hβ : ∀ i y, β i = some y → Can y ∧ vb y = 0) (h : ∀ M : List Tm, M.length = (nms (vb P)).length → gnd M → (∀ i y, β i = some y → i < M.length → M[i]? = some y) → isM P t M) : ∀ i, i < (nms (vb P)).length → ∃ y, β i = some y := by
  intro i hi
  cases hb : β i with
  | some y => exact ⟨y, rfl⟩
  | none =>
    exfalso
    let M : List Tm := (List.range (nms (vb P)).length).map (fun j => if j = i then tower t.length else (β j).getD (node 1 0 []))
    have hl : M.length = (nms (vb P)).length := by simp [M]
    have hget : ∀ j, j < (nms (vb P)).length → M[j]? = some (if j = i then tower t.length else (β j).getD (node 1 0 [])) := fun j hj => by
      show ((List.range _).map _)[j]? = _
      rw [List.getElem?_map, List.getElem?_range hj]
      rfl
    have hM : gnd M := fun y hy => by
      obtain ⟨j, _, e⟩ := List.mem_map.mp hy
      rw [← e]
      split
      · exact ⟨(tower_ok _).1, (tower_ok _).2.1⟩
      · cases hq : β j with
        | none => exact ⟨can_c (by omega), rfl⟩
        | some z => exact hβ j z hq
    have hi2 := h M hl hM fun j y hj hjl => by
      rw [hget j (by omega)]
      by_cases e : j = i
      · rw [e, hb] at hj; cases hj
      · rw [if_neg e, hj]; rfl
    have hlt : i < (nms (vb P)).length := hi
    have ha := List.getElem?_eq_getElem hlt
    have hmem := nms_mem.mp (List.getElem_mem hlt)
    have hv := len_var (θ := asg (nms (vb P)) M) (fun v hv => asg_can hl hM hv) P hP _ hmem.2
    rw [hi2.2.2, asg_in (nms_nd _) ha (by rw [hget i hi, if_pos rfl])] at hv
    have := (tower_ok t.length).2.2
    omega
end MA
/-! order of matchers -/
def llt : List Tm → List Tm → Prop
  | x :: L, y :: R => tlt x y ∨ (x = y ∧ llt L R)
  | _, _ => False
theorem llt_irr : ∀ L, ¬ llt L L
  | [], h => h
  | x :: L, h => by
    rcases h with h | ⟨_, h⟩
    · exact tlt_irr _ h
    · exact llt_irr L h
theorem llt_trans : ∀ a b c, llt a b → llt b c → llt a c
  | x :: a, y :: b, z :: c, h, g => by
    rcases h with h | ⟨h1, h2⟩
    · rcases g with g | ⟨g1, g2⟩
      · exact Or.inl (tlt_trans _ _ _ h g)
      · rw [← g1]; exact Or.inl h
    · rcases g with g | ⟨g1, g2⟩
      · rw [h1]; exact Or.inl g
      · exact Or.inr ⟨h1.trans g1, llt_trans a b c h2 g2⟩
  | [], _, _, h, _ => False.elim h
  | _ :: _, [], _, h, _ => False.elim h
  | _ :: _, _ :: _, [], _, g => False.elim g
theorem llt_total : ∀ {a b : List Tm}, a.length = b.length → (∀ y ∈ a, wf y) → (∀ y ∈ b, wf y) → a ≠ b → llt a b ∨ llt b a
  | [], [], _, _, _, h => absurd rfl h
  | [], _ :: _, e, _, _, _ => by simp at e
  | _ :: _, [], e, _, _, _ => by simp at e
  | x :: a, y :: b, e, h1, h2, hne => by
    by_cases hxy : x = y
    · subst hxy
      rcases llt_total (by simpa using e) (fun y hy => h1 y (List.mem_cons_of_mem _ hy)) (fun y hy => h2 y (List.mem_cons_of_mem _ hy)) (fun z => hne (by rw [z])) with h | h
      · exact Or.inl (Or.inr ⟨rfl, h⟩)
      · exact Or.inr (Or.inr ⟨rfl, h⟩)
    · rcases tlt_total (h1 x List.mem_cons_self) (h2 y List.mem_cons_self) hxy with h | h
      · exact Or.inl (Or.inl h)
      · exact Or.inr (Or.inl h)
/-- what both sides come to: all matchers in order, or more than there is room for -/
def mall (P t : Tm) (G : List (List Tm)) : Prop := G.Pairwise llt ∧ ∀ M, M ∈ G ↔ isM P t M
def mfull (P t : Tm) : Prop := ∃ G : List (List Tm), G.Nodup ∧ 50 < G.length ∧ ∀ M ∈ G, isM P t M
theorem mall_uniq {P t : Tm} {G G' : List (List Tm)} (h : mall P t G) (h' : mall P t G') : G = G' := so_eq llt_irr llt_trans h.1 h'.1 (fun x hx => (h'.2 x).mpr ((h.2 x).mp hx)) (fun x hx => (h.2 x).mpr ((h'.2 x).mp hx))
theorem mall_full {P t : Tm} {G : List (List Tm)} (h : mall P t G) (hl : G.length ≤ 50) : ¬ mfull P t := fun ⟨F, f1, f2, f3⟩ => by
  have := nd_le f1 (l := G) fun M hM => (h.2 M).mpr (f3 M hM)
  omega
