/-! ===== the text of a term ===== -/
def sepc (k : Nat) : Nat := if k = 2 then 44 else if k = 3 then 43 else 42
def ltr (k a : Nat) : List Nat := if k = 0 then [if a < 6 then 117 + a else 59 + a] else if k = 1 then [97 + a] else if k = 2 then [102 + a] else []
def prB (k : Nat) (f : Tm → List Nat) (y : Tm) : List Nat := if k = 4 ∧ kd y = 3 then [40] ++ f y ++ [41] else f y
def prJ (k : Nat) (f : Tm → List Nat) : List Tm → List Nat
  | [] => []
  | y :: L => prB k f y ++ L.flatMap (fun z => sepc k :: prB k f z)
def bo (k : Nat) : List Nat := if k = 2 then [40] else []
def bc (k : Nat) : List Nat := if k = 2 then [41] else []
noncomputable def prF : Nat → Tm → List Nat
  | 0, _ => []
  | n + 1, x => ltr (kd x) (nm x) ++ (bo (kd x) ++ (prJ (kd x) (prF n) (pts x) ++ bc (kd x)))
noncomputable def pr (x : Tm) : List Nat := prF x.length x
theorem prJ_snoc (k : Nat) (f : Tm → List Nat) (y : Tm) : ∀ L : List Tm, prJ k f (L ++ [y]) = prJ k f L ++ ((if L = [] then [] else [sepc k]) ++ prB k f y)
  | [] => by simp [prJ]
  | z :: L => by
    simp only [List.cons_append, prJ, List.flatMap_append, List.append_assoc]
    simp
theorem prB_eq {k : Nat} {f g : Tm → List Nat} {y : Tm} (h : f y = g y) : prB k f y = prB k g y := by
  unfold prB
  rw [h]
theorem prJ_eq {k : Nat} {f g : Tm → List Nat} : ∀ {L : List Tm}, (∀ y ∈ L, f y = g y) → prJ k f L = prJ k g L
  | [], _ => rfl
  | y :: L, h => by
    show prB k f y ++ L.flatMap (fun z => sepc k :: prB k f z) = prB k g y ++ L.flatMap (fun z => sepc k :: prB k g z)
    rw [prB_eq (h y List.mem_cons_self)]
    congr 1
    rw [List.flatMap_def, List.flatMap_def]
    congr 1
    refine map_eq fun z hz => ?_
    rw [prB_eq (h z (List.mem_cons_of_mem _ hz))]
theorem prF_eq : ∀ (n m : Nat) (x : Tm), Can x → x.length ≤ n → x.length ≤ m → prF n x = prF m x
  | 0, _, x, h, h1, _ => by have := wf_pos (Can_wf h); omega
  | _ + 1, 0, x, h, _, h1 => by have := wf_pos (Can_wf h); omega
  | n + 1, m + 1, x, h, h1, h2 => by
    unfold prF
    rw [prJ_eq fun y hy => prF_eq n m y ((Can_pts h).2.2 y hy) (by have := pts_len h hy; omega) (by have := pts_len h hy; omega)]
theorem pr_eq {x : Tm} (h : Can x) : pr x = ltr (kd x) (nm x) ++ (bo (kd x) ++ (prJ (kd x) pr (pts x) ++ bc (kd x))) := by
  have h1 := wf_pos (Can_wf h)
  unfold pr
  rw [show x.length = (x.length - 1) + 1 by omega, prF]
  rw [prJ_eq (g := fun y => prF y.length y) fun y hy => prF_eq _ _ y ((Can_pts h).2.2 y hy) (by have := pts_len h hy; omega) (Nat.le_refl _)]
theorem pr_len : ∀ x, Can x → (pr x).length + 1 ≤ 4 * x.length ∧ (kd x = 3 → (pr x).length + 5 ≤ 4 * x.length) := by
  refine can_ind fun k a L hl hc ih => ?_
  have hx := Can_mk hl hc
  have hp : pts (node k a L) = L := pts_node fun y hy => Can_wf (hc y hy)
  rw [pr_eq hx, kd_node, nm_node, hp, node_len]
  have hB : ∀ y ∈ L, (prB k pr y).length + 1 ≤ 4 * y.length := fun y hy => by
    obtain ⟨i1, i2⟩ := ih y hy
    unfold prB
    by_cases e : k = 4 ∧ kd y = 3
    · rw [if_pos e]
      have := i2 e.2
      simp
      omega
    · rw [if_neg e]
      exact i1
  have hF : ∀ M : List Tm, (∀ y ∈ M, y ∈ L) → (M.flatMap (fun z => sepc k :: prB k pr z)).length ≤ 4 * M.flatten.length := by
    intro M
    induction M with
    | nil => simp
    | cons y M ihM =>
      intro h
      have h1 := hB y (h y List.mem_cons_self)
      have h2 := ihM fun z hz => h z (List.mem_cons_of_mem _ hz)
      rw [List.flatMap_cons, List.flatten_cons, List.length_append, List.length_append, List.length_cons]
      omega
  have hJ : (prJ k pr L).length ≤ 4 * L.flatten.length ∧ (L ≠ [] → (prJ k pr L).length + 1 ≤ 4 * L.flatten.length) := by
    cases L with
    | nil => simp [prJ]
    | cons y M =>
      have h1 := hB y List.mem_cons_self
      have h2 := hF M fun z hz => List.mem_cons_of_mem _ hz
      unfold prJ
      rw [List.length_append, List.flatten_cons, List.length_append]
      exact ⟨by omega, fun _ => by omega⟩
  simp only [List.length_append]
  rcases hl with ⟨rfl, h2, h3⟩ | ⟨rfl, h2, h3⟩ | ⟨rfl, h2, h3, h4⟩ | ⟨h1, h2, h3, h4⟩
  · subst h3
    simp [prJ, ltr, bo, bc]
  · subst h3
    simp [prJ, ltr, bo, bc]
  · have hn : L ≠ [] := fun e => by rw [e] at h3; simp at h3
    have := hJ.2 hn
    have e1 : (ltr 2 a).length = 1 := by simp [ltr]
    have e2 : (bo 2).length = 1 := by simp [bo]
    have e3 : (bc 2).length = 1 := by simp [bc]
    rw [e1, e2, e3]
    exact ⟨by omega, fun z => by omega⟩
  · have hn : L ≠ [] := fun e => by rw [e] at h3; simp at h3
    have := hJ.2 hn
    have e1 : ltr k a = [] := by unfold ltr; rw [if_neg (by omega), if_neg (by omega), if_neg (by omega)]
    have e2 : bo k = [] := if_neg (by omega)
    have e3 : bc k = [] := if_neg (by omega)
    rw [e1, e2, e3]
    simp only [List.length_nil]
    omega
theorem ltr_lt {k a w : Nat} (hk : k ≤ 4) (ha : a < 22) (h : w ∈ ltr k a) : w < 127 := by
  unfold ltr at h
  by_cases e0 : k = 0
  · rw [if_pos e0] at h
    simp at h
    by_cases e : a < 6
    · rw [if_pos e] at h; omega
    · rw [if_neg e] at h; omega
  · rw [if_neg e0] at h
    by_cases e1 : k = 1
    · rw [if_pos e1] at h
      simp at h
      omega
    · rw [if_neg e1] at h
      by_cases e2 : k = 2
      · rw [if_pos e2] at h
        simp at h
        omega
      · rw [if_neg e2] at h
        simp at h
