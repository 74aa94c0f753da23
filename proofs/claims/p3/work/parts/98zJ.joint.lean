/-! ===== both between two calls ===== -/
def Inv2 (n : Nat) (σx σm : am_S) : Prop := ∃ bs R U A G, tok bs ∧ G.length ≤ 100 ∧ CI n bs R U A G σx ∧ RI bs R U A G σm
theorem jn_ok {Inv : am_S → am_S → Prop} {P Q : am_S → Prop} {Jx Jm : am_I} {as : List Value} {σx σm : am_S} (R : Int32) (hx : am_K ri am_Lx Jx 2000 (.ref 0 :: as) σx (fun r τ => r = R ∧ P τ)) (hm : am_K ri am_Lm Jm 2000 (.ref 0 :: as) σm (fun r τ => r = R ∧ τ.2 = σm.2 ∧ Q τ)) (hI : ∀ τ υ, P τ → Q υ → Inv τ υ) : lw_ok Inv Jx Jm as σx σm := by
  obtain ⟨r, τ, cx, e1, hP⟩ := hx
  obtain ⟨r', υ, cm, e2, h2, hQ⟩ := hm
  have e3 : r = R := e1
  have e4 : r' = R := e2
  subst e3 e4
  exact ⟨_, τ, υ, cx, cm, ⟨by show σm.2.2.1 = υ.2.2.1; rw [h2], by show σm.2.2.2 = υ.2.2.2; rw [h2]⟩, hI _ _ hP hQ⟩
theorem jn_on {Inv : am_S → am_S → Prop} {P Q : am_S → Prop} {Jx Jm : am_I} {as : List Value} {σx σm : am_S} (hx : am_K ri am_Lx Jx 2000 (.ref 0 :: as) σx (fun _ τ => P τ)) (hm : am_K ri am_Lm Jm 2000 (.ref 0 :: as) σm (fun _ τ => τ.2 = σm.2 ∧ Q τ)) (hI : ∀ τ υ, P τ → Q υ → Inv τ υ) : lw_on Inv Jx Jm as σx σm := by
  obtain ⟨r, τ, cx, hP⟩ := hx
  obtain ⟨r', υ, cm, h2, hQ⟩ := hm
  exact ⟨r, r', τ, υ, cx, cm, ⟨by show σm.2.2.1 = υ.2.2.1; rw [h2], by show σm.2.2.2 = υ.2.2.2; rw [h2]⟩, hI _ _ hP hQ⟩
theorem ok_on {Inv : am_S → am_S → Prop} {Jx Jm : am_I} {as : List Value} {σx σm : am_S} (h : lw_ok Inv Jx Jm as σx σm) : lw_on Inv Jx Jm as σx σm := by
  obtain ⟨r, τ, υ, h⟩ := h
  exact ⟨r, r, τ, υ, h⟩
/-! ===== type ===== -/
def bl (w : Int64) : Nat → List Nat
  | 0 => []
  | m + 1 => byN w m :: bl w m
theorem bl_len (w : Int64) : ∀ m, (bl w m).length = m
  | 0 => rfl
  | m + 1 => congrArg (· + 1) (bl_len w m)
theorem bl_mem (w : Int64) : ∀ m b, b ∈ bl w m → ∃ j, j < m ∧ b = byN w j
  | 0, b, h => by cases h
  | m + 1, b, h => by
    rcases List.mem_cons.mp h with e | h
    · exact ⟨m, by omega, e⟩
    · obtain ⟨j, hj, e⟩ := bl_mem w m b h
      exact ⟨j, by omega, e⟩
theorem tx1 {bs : List Nat} {σ : am_S} {b : Nat} (h : Tx bs σ) (hl : bs.length < 64) : Tx (bs ++ [b]) (wS (wA σ 8 (gS σ 7 2).toNatClampNeg (nI b)) 7 2 (gS σ 7 2 + 1)) := by
  refine ⟨by rw [wS_at, h.1, nI_1 bs.length, List.length_append, List.length_singleton], fun i c hc => ?_⟩
  show gA (wA σ 8 (gS σ 7 2).toNatClampNeg (nI b)) 8 i = nI c
  rw [h.1, nI_clamp (by omega)]
  by_cases hi : i < bs.length
  · rw [wA_ne (by omega)]
    rw [List.getElem?_append_left hi] at hc
    exact h.2 i c hc
  · have hi2 := get_lt hc
    have e : i = bs.length := by
      rw [List.length_append] at hi2
      have : [b].length = 1 := rfl
      omega
    subst e
    rw [wA_at]
    rw [List.getElem?_append_right (Nat.le_refl _), Nat.sub_self] at hc
    have e2 : b = c := by simpa using hc
    rw [e2]
theorem tm1 {bs : List Nat} {σ : am_S} {b : Nat} (h : Tm' bs σ) (hl : bs.length < 64) : Tm' (bs ++ [b]) (wS (wA σ 6 (gS σ 0 9).toNatClampNeg (nI b)) 0 9 (gS σ 0 9 + 1)) := by
  refine ⟨by rw [wS_at, h.1, nI_1 bs.length, List.length_append, List.length_singleton], fun i c hc => ?_⟩
  show gA (wA σ 6 (gS σ 0 9).toNatClampNeg (nI b)) 6 i = nI c
  rw [h.1, nI_clamp (by omega)]
  by_cases hi : i < bs.length
  · rw [wA_ne (by omega)]
    rw [List.getElem?_append_left hi] at hc
    exact h.2 i c hc
  · have hi2 := get_lt hc
    have e : i = bs.length := by
      rw [List.length_append] at hi2
      have : [b].length = 1 := rfl
      omega
    subst e
    rw [wA_at]
    rw [List.getElem?_append_right (Nat.le_refl _), Nat.sub_self] at hc
    have e2 : b = c := by simpa using hc
    rw [e2]
theorem Tx_ty (w : Int64) : ∀ (m : Nat) (bs : List Nat) (σ : am_S), Tx bs σ → bs.length + m ≤ 64 → fr [(7, 2)] [8] [] [] σ (tyx w m σ) ∧ Tx (bs ++ bl w m) (tyx w m σ)
  | 0, bs, σ, h, _ => ⟨fr_rfl, by rw [show bl w 0 = [] from rfl, List.append_nil]; exact h⟩
  | m + 1, bs, σ, h, hl => by
    obtain ⟨f, g⟩ := Tx_ty w m (bs ++ [byN w m]) _ (tx1 (b := byN w m) h (by omega)) (by rw [List.length_append]; show bs.length + 1 + m ≤ 64; omega)
    refine ⟨fr_trans (fr_wS (fr_wA fr_rfl (by decide)) (by decide)) f, ?_⟩
    rw [List.append_assoc] at g
    exact g
theorem Tm_ty (w : Int64) : ∀ (m : Nat) (bs : List Nat) (σ : am_S), Tm' bs σ → bs.length + m ≤ 64 → fr [(0, 9)] [6] [] [] σ (tym w m σ) ∧ Tm' (bs ++ bl w m) (tym w m σ)
  | 0, bs, σ, h, _ => ⟨fr_rfl, by rw [show bl w 0 = [] from rfl, List.append_nil]; exact h⟩
  | m + 1, bs, σ, h, hl => by
    obtain ⟨f, g⟩ := Tm_ty w m (bs ++ [byN w m]) _ (tm1 (b := byN w m) h (by omega)) (by rw [List.length_append]; show bs.length + 1 + m ≤ 64; omega)
    refine ⟨fr_trans (fr_wS (fr_wA fr_rfl (by decide)) (by decide)) f, ?_⟩
    rw [List.append_assoc] at g
    exact g
theorem Sm_mK {S : List (Nat × Nat)} {A : List Nat} {Z : Nat → Prop} {σ τ : am_S} {W : Sv} (h : Sm σ W) (g : mK S A Z σ τ) (h7 : 7 ∉ A) (hZ : ∀ i, i < 640 → Z i) : Sm τ W := by
  intro s hs
  rcases h s hs with ⟨a, b⟩ | ⟨x, a, b, c, d, e⟩
  · exact Or.inl ⟨a, by rw [g.2.1 7 (by omega) h7]; exact b⟩
  · exact Or.inr ⟨x, a, by rw [g.2.1 7 (by omega) h7]; exact b, c, d, seg_move (fun q h1 h4 i hi => g.2.2.1 q h1 h4 _ (hZ _ (by have := d.1; omega))) e⟩
section JN
variable {n : Nat} {bs : List Nat} {R U : Nat} {A0 : Nat → Nat → Int} {G : List (List Nat)} {σ τ : am_S}
theorem xc_ty {w : Int64} {m : Nat} (h : CI (n + 1) bs R U A0 G σ) (hm : bs.length + m ≤ 64) : CI n (bs ++ bl w m) R U A0 G (tyx w m σ) := by
  obtain ⟨eT, eS, ⟨V, hV⟩, el, e3, ⟨ws, eW⟩, ⟨u, eU⟩, eM, eb⟩ := h
  obtain ⟨f, gT⟩ := Tx_ty w m bs σ eT hm
  have g := gw_fr f (by decide) (by simp)
  exact ⟨gT, sys_gw eS g (by decide) (by decide), ⟨V, Sx_ext hV (gw_ext g) (gw_P g (by omega) (by decide))⟩, lts_gw el g (by decide), (gw_S g (by omega) (by decide)).trans e3, ⟨ws, Wx_gw eW g (by decide) (by decide)⟩, ⟨u, Ux_gw eU g (by decide) (by decide) (by decide)⟩, MG_gw eM g (by decide) (by decide) (by decide) (by decide) (by decide) (by decide), bud_dn eb g (by decide) (by decide)⟩
theorem mc_ty {w : Int64} {m : Nat} (h : RI bs R U A0 G σ) (hm : bs.length + m ≤ 64) : RQ (bs ++ bl w m) R U A0 G σ (tym w m σ) := by
  obtain ⟨eT, eS, ⟨W, hW⟩, ⟨ws, eW⟩, ⟨u, eU⟩, eM⟩ := h
  obtain ⟨f, gT⟩ := Tm_ty w m bs σ eT hm
  have g := mK_fr f (by decide)
  exact ⟨g.2.2.2, gT, sysm_mK eS g (by decide) (by decide), ⟨W, Sm_mK hW g (by decide) (fun _ _ => trivial)⟩, ⟨ws, Wm_mK eW g (by decide) (by decide)⟩, ⟨u, Um_mK eU g (by decide) (by decide) (fun _ _ _ => trivial)⟩, MR_mK eM g (by decide) (by decide) (fun _ _ _ => trivial)⟩
/-- the class, another system -/
theorem CI_sy {R' U' : Nat} {A' : Nat → Nat → Int} {G' : List (List Nat)} {S : List (Nat × Nat)} {A : List Nat} (h : CI (n + 1) bs R U A0 G σ) (f : fr S A [] [] σ τ) (hS : ∀ x ∈ S, x.1 = 28) (hA : ∀ x ∈ A, 29 ≤ x ∧ x ≤ 34) (eS : bs28 R' U' A' τ ∧ fs28 U' G' τ) : CI n bs R' U' A' G' τ := by
  obtain ⟨eT, -, ⟨V, hV⟩, el, e3, ⟨ws, eW⟩, ⟨u, eU⟩, eM, eb⟩ := h
  have g := gw_fr f (fun x hx => by rw [hS x hx]; decide) (by simp)
  have nS : ∀ a b, a ≠ 28 → (a, b) ∉ S := fun a b e z => e (hS _ z)
  have nA : ∀ a, ¬ (29 ≤ a ∧ a ≤ 34) → a ∉ A := fun a e z => e (hA _ z)
  exact ⟨Tx_gw eT g (nS _ _ (by decide)) (nA _ (by decide)), eS, ⟨V, Sx_ext hV (gw_ext g) (gw_P g (by omega) (by decide))⟩, lts_gw el g (by decide), (gw_S g (by omega) (nS _ _ (by decide))).trans e3, ⟨ws, Wx_gw eW g (nS _ _ (by decide)) (nA _ (by decide))⟩, ⟨u, Ux_gw eU g (fun x hx => by rw [hS x hx]; decide) (fun x hx => by have := hA x hx; omega) (by decide)⟩, MG_gw eM g (nS _ _ (by decide)) (nS _ _ (by decide)) (by decide) (by decide) (by decide) (by decide), bud_dn eb g (by decide) (by decide)⟩
/-- the reference, another system -/
theorem RI_sy {R' U' : Nat} {A' : Nat → Nat → Int} {G' : List (List Nat)} {S : List (Nat × Nat)} {A : List Nat} (h : RI bs R U A0 G σ) (f : fr S A [] [] σ τ) (hS : ∀ x ∈ S, x ∈ [((0 : Nat), (27 : Nat)), (0, 29), (0, 30), (0, 32)]) (hA : ∀ x ∈ A, x ∈ [18, 19, 20, 21]) (eS : ms R' U' A' τ ∧ mb U' G' τ) : RQ bs R' U' A' G' σ τ := by
  obtain ⟨eT, -, ⟨W, hW⟩, ⟨ws, eW⟩, ⟨u, eU⟩, eM⟩ := h
  have nS : ∀ x, x ∉ [((0 : Nat), (27 : Nat)), (0, 29), (0, 30), (0, 32)] → x ∉ S := fun x e z => e (hS _ z)
  have nA : ∀ x, x ∉ [18, 19, 20, 21] → x ∉ A := fun x e z => e (hA _ z)
  have g := mK_fr f (fun x hx => nA x (by simp at hx ⊢; omega))
  exact ⟨g.2.2.2, Tm_mK eT g (nS _ (by decide)) (nA _ (by decide)), eS, ⟨W, Sm_mK hW g (nA _ (by decide)) (fun _ _ => trivial)⟩, ⟨ws, Wm_mK eW g (nS _ (by decide)) (nA _ (by decide))⟩, ⟨u, Um_mK eU g (fun x hx => nS x ((by decide : ∀ x ∈ [((0 : Nat), (36 : Nat)), (0, 37), (0, 38), (0, 39), (0, 40), (0, 41)], x ∉ [((0 : Nat), (27 : Nat)), (0, 29), (0, 30), (0, 32)]) x hx)) (fun x hx => nA x (by simp at hx ⊢; omega)) (fun _ _ _ => trivial)⟩, MR_mK eM g (fun x hx => nS x ((by decide : ∀ x ∈ [((0 : Nat), (16 : Nat)), (0, 17)], x ∉ [((0 : Nat), (27 : Nat)), (0, 29), (0, 30), (0, 32)]) x hx)) (fun x hx => nA x (by simp at hx ⊢; omega)) (fun _ _ _ => trivial)⟩
end JN
theorem fr_wz {S : List (Nat × Nat)} {A J P : List Nat} {a : Nat} {σ τ : am_S} (h : fr S A J P σ τ) (hm : a ∈ A) : ∀ k, fr S A J P σ (wz a k τ)
  | 0 => h
  | k + 1 => fr_wA (fr_wz h hm k) hm
theorem sy_z0 : ((0 : Int32).toInt = (0 : Int)) ∧ (-9 : Int) ≤ 0 ∧ (0 : Int) ≤ 9 := ⟨rfl, by decide, by decide⟩
theorem sy_x {σ : am_S} {R U R' U' : Nat} {A0 : Nat → Nat → Int} (h : bs28 R U A0 σ) (hR : R' ≤ 3) (hU : U' ≤ 6) : bs28 R' U' (fun _ _ => 0) (sysx (nI R') (nI U') σ) ∧ fs28 U' [] (sysx (nI R') (nI U') σ) := by
  have eS : gS (sysx (nI R') (nI U') σ) = gS (wS (wS (wS σ 28 8 (nI R')) 28 9 (nI U')) 28 11 0) := by unfold sysx; exact wz_S _ _ _
  refine ⟨⟨?_, ?_, ?_, ?_, hR, hU, fun r hr j hj => ?_⟩, ?_, fun i hi => by simp at hi⟩
  · rw [eS, wS_ne (by omega), wS_ne (by omega), wS_ne (by omega)]; exact h.1
  · rw [eS, wS_ne (by omega), wS_ne (by omega), wS_ne (by omega)]; exact h.2.1
  · rw [eS, wS_ne (by omega), wS_ne (by omega), wS_at]
  · rw [eS, wS_ne (by omega), wS_at]
  · have e : gA (sysx (nI R') (nI U') σ) 29 (6 * r + j) = 0 := by
      unfold sysx
      rw [wz_A, if_pos ⟨rfl, by omega⟩]
    rw [e]
    exact sy_z0
  · exact (show gS (sysx (nI R') (nI U') σ) 28 11 = 0 by rw [eS, wS_at])
theorem sy_m {σ : am_S} {R' U' : Nat} (hR : R' ≤ 3) (h1 : 1 ≤ U') (hU : U' ≤ 6) : ms R' U' (fun _ _ => 0) (sysm (nI R') (nI U') σ) ∧ mb U' [] (sysm (nI R') (nI U') σ) := by
  have eS : gS (sysm (nI R') (nI U') σ) = gS (wS (wS (wS σ 0 29 (nI R')) 0 30 (nI U')) 0 32 0) := by unfold sysm; exact wz_S _ _ _
  refine ⟨⟨?_, ?_, hR, h1, hU, fun r hr j hj => ?_⟩, ?_, fun i hi => by simp at hi⟩
  · rw [eS, wS_ne (by omega), wS_ne (by omega), wS_at]
  · rw [eS, wS_ne (by omega), wS_at]
  · have e : gA (sysm (nI R') (nI U') σ) 18 (6 * r + j) = 0 := by
      unfold sysm
      rw [wz_A, if_pos ⟨rfl, by omega⟩]
    rw [e]
    exact sy_z0
  · exact (show gS (sysm (nI R') (nI U') σ) 0 32 = 0 by rw [eS, wS_at])
/-- the numbers with one changed -/
def nuA (A0 : Nat → Nat → Int) (i j : Nat) (v : Int) : Nat → Nat → Int := fun a b => if a = i ∧ b = j then v else A0 a b
theorem nu_x {σ : am_S} {R U i j : Nat} {A0 : Nat → Nat → Int} {v : Int32} (h : bs28 R U A0 σ) (hi : i < R) (hj : j < U) (hv : -9 ≤ v.toInt ∧ v.toInt ≤ 9) : bs28 R U (nuA A0 i j v.toInt) (numx (6 * i + j) v σ) ∧ fs28 U [] (numx (6 * i + j) v σ) := by
  obtain ⟨a1, a2, a3, a4, a5, a6, a7⟩ := h
  have e1 : ∀ q, q ≠ 11 → gS (numx (6 * i + j) v σ) 28 q = gS σ 28 q := fun q hq => by unfold numx; rw [wS_ne (by omega)]; (try rfl)
  refine ⟨⟨(e1 0 (by decide)).trans a1, (e1 1 (by decide)).trans a2, (e1 8 (by decide)).trans a3, (e1 9 (by decide)).trans a4, a5, a6, fun r hr k hk => ?_⟩, wS_at _ _ _ _, fun i hi => by simp at hi⟩
  show (gA (wA σ 29 (6 * i + j) v) 29 (6 * r + k)).toInt = nuA A0 i j v.toInt r k ∧ _
  unfold nuA
  by_cases e : r = i ∧ k = j
  · rw [if_pos e, e.1, e.2, wA_at]
    exact ⟨rfl, hv⟩
  · rw [if_neg e, wA_ne (by omega)]
    exact a7 r hr k hk
theorem nu_m {σ : am_S} {R U i j : Nat} {A0 : Nat → Nat → Int} {v : Int32} (h : ms R U A0 σ) (hi : i < R) (hj : j < U) (hv : -9 ≤ v.toInt ∧ v.toInt ≤ 9) : ms R U (nuA A0 i j v.toInt) (numm (6 * i + j) v σ) ∧ mb U [] (numm (6 * i + j) v σ) := by
  obtain ⟨a1, a2, a3, a4, a5, a6⟩ := h
  have e1 : ∀ q, q ≠ 32 → gS (numm (6 * i + j) v σ) 0 q = gS σ 0 q := fun q hq => by unfold numm; rw [wS_ne (by omega)]; (try rfl)
  refine ⟨⟨(e1 29 (by decide)).trans a1, (e1 30 (by decide)).trans a2, a3, a4, a5, fun r hr k hk => ?_⟩, wS_at _ _ _ _, fun i hi => by simp at hi⟩
  show (gA (wA σ 18 (6 * i + j) v) 18 (6 * r + k)).toInt = nuA A0 i j v.toInt r k ∧ _
  unfold nuA
  by_cases e : r = i ∧ k = j
  · rw [if_pos e, e.1, e.2, wA_at]
    exact ⟨rfl, hv⟩
  · rw [if_neg e, wA_ne (by omega)]
    exact a6 r hr k hk
/-! ===== the calls, both sides ===== -/
section JC
variable {n : Nat} {σx σm : am_S}
theorem jc_dn (h : Inv2 (n + 1) σx σm) : Inv2 n σx σm := by
  obtain ⟨bs, R, U, A0, G, h1, h2, hC, hR⟩ := h
  exact ⟨bs, R, U, A0, G, h1, h2, CI_dn hC, hR⟩
theorem jc_type (h : Inv2 (n + 1) σx σm) (w : Int64) (a : Int32) : lw_ok (Inv2 n) IX10_type IX11_type [.long w, .int a] σx σm := by
  obtain ⟨bs, R, U, A0, G, h1, h2, hC, hR⟩ := h
  have hm := m_type (σ := σm) (d := 1998) w a (L := bs.length) h1.1 hR.1.1
  rcases x_typed (σ := σx) (d := 1997) w a (L := bs.length) h1.1 hC.1.1 with ⟨c, hb⟩ | ⟨m, en, m1, m8, hg, ⟨z, c⟩ | ⟨h64, c⟩⟩
  · exact jn_ok (P := CI n bs R U A0 G) (Q := RI bs R U A0 G) (-1) (vX10_type ⟨_, _, c, rfl, CI_dn hC⟩) ⟨_, _, hm.1 hb, rfl, rfl, hR⟩ fun τ υ p q => ⟨bs, R, U, A0, G, h1, h2, p, q⟩
  · exact jn_ok (P := CI n bs R U A0 G) (Q := RI bs R U A0 G) (-4) (vX10_type ⟨_, _, c, rfl, CI_dn hC⟩) ⟨_, _, (hm.2 m en m1 m8 hg).1 z, rfl, rfl, hR⟩ fun τ υ p q => ⟨bs, R, U, A0, G, h1, h2, p, q⟩
  · have p1 := xc_ty (w := w) (m := m) hC h64
    have q1 := mc_ty (w := w) (m := m) hR h64
    refine jn_ok (P := CI n (bs ++ bl w m) R U A0 G) (Q := RI (bs ++ bl w m) R U A0 G) (nI (bs ++ bl w m).length) (vX10_type ⟨_, _, c, p1.1.1, p1⟩) ⟨_, _, (hm.2 m en m1 m8 hg).2 h64, q1.2.1.1, q1⟩ fun τ υ p q => ⟨_, R, U, A0, G, ⟨?_, fun b hb => ?_⟩, h2, p, q⟩
    · rw [List.length_append, bl_len]; exact h64
    · rcases List.mem_append.mp hb with hb | hb
      · exact h1.2 b hb
      · obtain ⟨j, hj, e⟩ := bl_mem w m b hb
        rw [e]
        exact hg j hj
theorem jc_system (h : Inv2 (n + 1) σx σm) (a b : Int32) : lw_ok (Inv2 n) IX10_system IX11_system [.int a, .int b] σx σm := by
  obtain ⟨bs, R, U, A0, G, h1, h2, hC, hR⟩ := h
  rcases x_system (σ := σx) (d := 1998) a b hC.2.1.1.1 with ⟨h, c⟩ | ⟨h, c⟩
  · exact jn_ok (P := CI n bs R U A0 G) (Q := RI bs R U A0 G) (-1) ⟨_, _, c, rfl, CI_dn hC⟩ ⟨_, _, (m_system (σ := σm) (d := 1998) a b).1 h, rfl, rfl, hR⟩ fun τ υ p q => ⟨bs, R, U, A0, G, h1, h2, p, q⟩
  · have cm := (m_system (σ := σm) (d := 1998) a b).2 h
    obtain ⟨i, i1, i3, rfl⟩ := i_2 (n := a) (lo := 1) (hi := 3) (by decide) ⟨by omega, by omega⟩
    obtain ⟨j, j1, j6, rfl⟩ := i_2 (n := b) (lo := 1) (hi := 6) (by decide) ⟨by omega, by omega⟩
    exact jn_ok (P := CI n bs i j (fun _ _ => 0) []) (Q := RI bs i j (fun _ _ => 0) []) 1 ⟨_, _, c, rfl, CI_sy hC (S := [(28, 8), (28, 9), (28, 11)]) (A := [29]) (fr_wz (fr_wS (fr_wS (fr_wS fr_rfl (by decide)) (by decide)) (by decide)) (by decide) 18) (by decide) (by decide) (sy_x hC.2.1.1 i3 j6)⟩ ⟨_, _, cm, rfl, RI_sy hR (S := [(0, 29), (0, 30), (0, 32)]) (A := [18]) (fr_wz (fr_wS (fr_wS (fr_wS fr_rfl (by decide)) (by decide)) (by decide)) (by decide) 18) (by decide) (by decide) (sy_m i3 j1 j6)⟩ fun τ υ p q => ⟨bs, i, j, _, [], h1, by decide, p, q⟩
theorem jc_number (h : Inv2 (n + 1) σx σm) (a b c : Int32) : lw_ok (Inv2 n) IX10_number IX11_number [.int a, .int b, .int c] σx σm := by
  obtain ⟨bs, R, U, A0, G, h1, h2, hC, hR⟩ := h
  obtain ⟨a1, a2, a3, a4, a5, a6, a7⟩ := id hC.2.1.1
  obtain ⟨b1, b2, b3, b4, b5, b6⟩ := id hR.2.1.1
  have hx := x_number (σ := σx) (d := 1998) a b c (R := R) (U := U) a5 a6 a1 a3 a4
  have hm := m_number (σ := σm) (d := 1998) a b c (R := R) (U := U) b3 b5 b1 b2
  by_cases h : 0 ≤ a.toInt ∧ a.toInt < R ∧ 0 ≤ b.toInt ∧ b.toInt < U ∧ -9 ≤ c.toInt ∧ c.toInt ≤ 9
  · obtain ⟨i, _, hi, ea⟩ := i_2 (n := a) (lo := 0) (hi := R - 1) (by omega) ⟨by omega, by omega⟩
    obtain ⟨j, _, hj, eb⟩ := i_2 (n := b) (lo := 0) (hi := U - 1) (by omega) ⟨by omega, by omega⟩
    have hi2 : i < R := by omega
    have hj2 : j < U := by omega
    have hv : -9 ≤ c.toInt ∧ c.toInt ≤ 9 := ⟨by omega, by omega⟩
    have ee : gA σm 18 (6 * i + j) = gA σx 29 (6 * i + j) := i_eq.mpr ((b6 i hi2 j hj2).1.trans (a7 i hi2 j hj2).1.symm)
    exact jn_ok (P := CI n bs R U (nuA A0 i j c.toInt) []) (Q := RI bs R U (nuA A0 i j c.toInt) []) (gA σx 29 (6 * i + j)) ⟨_, _, hx.2 i j ea eb hi2 hj2 hv, rfl, CI_sy hC (S := [(28, 11)]) (A := [29]) (fr_wS (fr_wA fr_rfl (by decide)) (by decide)) (by decide) (by decide) (nu_x hC.2.1.1 hi2 hj2 hv)⟩ ⟨_, _, hm.2 i j ea eb hi2 hj2 hv, ee, RI_sy hR (S := [(0, 32)]) (A := [18]) (fr_wS (fr_wA fr_rfl (by decide)) (by decide)) (by decide) (by decide) (nu_m hR.2.1.1 hi2 hj2 hv)⟩ fun τ υ p q => ⟨bs, R, U, _, [], h1, by decide, p, q⟩
  · exact jn_ok (P := CI n bs R U A0 G) (Q := RI bs R U A0 G) (-1001) ⟨_, _, hx.1 h, rfl, CI_dn hC⟩ ⟨_, _, hm.1 h, rfl, rfl, hR⟩ fun τ υ p q => ⟨bs, R, U, A0, G, h1, h2, p, q⟩
theorem jc_lt1 {a : Int32} : a < 1 ↔ a.toInt < 1 := Int32.lt_iff_toInt_lt
theorem jc_le16 {a : Int32} : a ≤ 16 ↔ a.toInt ≤ 16 := Int32.le_iff_toInt_le
theorem jc_solve (h : Inv2 (n + 1) σx σm) (a : Int32) : lw_ok (Inv2 n) IX10_solve IX11_solve [.int a] σx σm := by
  obtain ⟨bs, R, U, A0, G, h1, h2, hC, hR⟩ := h
  have hb := hC.2.1.1
  have hU := hb.2.2.2.2.2.1
  by_cases h : 1 ≤ a.toInt ∧ a.toInt ≤ 16
  · obtain ⟨S, s1, s2, rfl⟩ := i_2 (n := a) (lo := 1) (hi := 16) (by decide) h
    have e : ∀ T, nI S = nI T → T ≤ 16 → T = S := fun T z hT => ((nI_eq (by omega) (by omega)).mp z).symm
    have hf : ∀ Q : Int32 → am_S → Prop, (∀ σ', fr [(28, 10), (28, 11)] [30, 31, 32, 33, 34] [] [] σx σ' → (sols R U S A0).length ≤ 100 → fs28 U (sols R U S A0) σ' → Q (nI (sols R U S A0).length) σ') → (∀ σ', fr [(28, 10), (28, 11)] [30, 31, 32, 33, 34] [] [] σx σ' → 100 < (sols R U S A0).length → fs28 U [] σ' → Q (-4) σ') → am_K ri am_Lx IX0_found 1999 [.ref 28, .int (nI S)] σx Q := by
      intro Q H1 H0
      have e := x_found28 (d := 1996 - U) hb s2 H1 H0
      rw [show 1996 - U + U + 3 = 1999 by omega] at e
      exact e
    by_cases hl : (sols R U S A0).length ≤ 100
    · refine jn_ok (P := CI n bs R U A0 (sols R U S A0)) (Q := RI bs R U A0 (sols R U S A0)) (nI (sols R U S A0).length) (vX10_solve (d := 1999) ⟨fun z => ?_, fun _ => ⟨fun _ => hf _ (fun σ' f _ g => ⟨rfl, CI_sy hC f (by decide) (by decide) ⟨bs28_fr hb f, g⟩⟩) (fun _ _ z _ => absurd hl (by omega)), fun z => ?_⟩⟩) (m_solve (d := 1992) hR.2.1.1 (fun z => absurd h z) (fun T τ eT _ hT f _ g => ?_) (fun T τ eT _ hT f z _ => ?_)) fun τ υ p q => ⟨bs, R, U, A0, _, h1, hl, p, q⟩
      · rw [jc_lt1] at z; exact (by omega : False).elim
      · rw [jc_le16] at z; exact (by omega : False).elim
      · have eT2 := e T eT hT
        subst eT2
        exact ⟨rfl, RI_sy hR f (by decide) (by decide) ⟨ms_fr hR.2.1.1 f, g⟩⟩
      · rw [e T eT hT] at z; exact absurd hl (by omega)
    · refine jn_ok (P := CI n bs R U A0 []) (Q := RI bs R U A0 []) (-4) (vX10_solve (d := 1999) ⟨fun z => ?_, fun _ => ⟨fun _ => hf _ (fun _ _ z _ => absurd z hl) (fun σ' f _ g => ⟨rfl, CI_sy hC f (by decide) (by decide) ⟨bs28_fr hb f, g⟩⟩), fun z => ?_⟩⟩) (m_solve (d := 1992) hR.2.1.1 (fun z => absurd h z) (fun T τ eT _ hT f z _ => ?_) (fun T τ eT _ hT f _ g => ⟨rfl, RI_sy hR f (by decide) (by decide) ⟨ms_fr hR.2.1.1 f, g⟩⟩)) fun τ υ p q => ⟨bs, R, U, A0, _, h1, by decide, p, q⟩
      · rw [jc_lt1] at z; exact (by omega : False).elim
      · rw [jc_le16] at z; exact (by omega : False).elim
      · rw [e T eT hT] at z; exact absurd z hl
  · refine jn_ok (P := CI n bs R U A0 G) (Q := RI bs R U A0 G) (-1) (vX10_solve (d := 1999) ⟨fun _ => ⟨rfl, CI_dn hC⟩, fun z => ⟨fun z2 => ?_, fun _ => ⟨rfl, CI_dn hC⟩⟩⟩) (m_solve (d := 1992) hR.2.1.1 (fun _ => ⟨rfl, rfl, hR⟩) (fun T τ eT h1 hT _ _ _ => ?_) (fun T τ eT h1 hT _ _ _ => ?_)) fun τ υ p q => ⟨bs, R, U, A0, G, h1, h2, p, q⟩
    · rw [jc_lt1] at z
      rw [jc_le16] at z2
      exact (by omega : False).elim
    · rw [eT, nI_toInt (by omega)] at h; exact (by omega : False).elim
    · rw [eT, nI_toInt (by omega)] at h; exact (by omega : False).elim
theorem jc_solution (h : Inv2 (n + 1) σx σm) (a b : Int32) : lw_ok (Inv2 n) IX10_solution IX11_solution [.int a, .int b] σx σm := by
  obtain ⟨bs, R, U, A0, G, h1, h2, hC, hR⟩ := h
  obtain ⟨a1, a2, a3, a4, a5, a6, a7⟩ := id hC.2.1.1
  obtain ⟨b1, b2, b3, b4, b5, b6⟩ := id hR.2.1.1
  obtain ⟨c1, c2⟩ := id hC.2.1.2
  obtain ⟨d1, d2⟩ := id hR.2.1.2
  have hx := x_solution (σ := σx) (d := 1998) a b (C := G.length) (U := U) h2 a6 a1 c1 a4
  have hm := m_solution (σ := σm) (d := 1998) a b (C := G.length) (U := U) h2 b5 d1 b2
  have fin : ∀ τ υ, CI n bs R U A0 G τ → RI bs R U A0 G υ → Inv2 n τ υ := fun τ υ p q => ⟨bs, R, U, A0, G, h1, h2, p, q⟩
  by_cases h : 0 ≤ a.toInt ∧ a.toInt < G.length ∧ 0 ≤ b.toInt ∧ b.toInt < U
  · obtain ⟨i, _, hi, ea⟩ := i_2 (n := a) (lo := 0) (hi := G.length - 1) (by omega) ⟨by omega, by omega⟩
    obtain ⟨j, _, hj, eb⟩ := i_2 (n := b) (lo := 0) (hi := U - 1) (by omega) ⟨by omega, by omega⟩
    have hi2 : i < G.length := by omega
    have hj2 : j < U := by omega
    obtain ⟨k, k1, k2, k3⟩ := d2 i hi2
    exact jn_ok (P := CI n bs R U A0 G) (Q := RI bs R U A0 G) (nI ((G.getD i []).getD j 0)) ⟨_, _, hx.2 i j ea eb hi2 hj2, c2 i hi2 (by omega) j hj2, CI_dn hC⟩ ⟨_, _, hm.2 i j k ea eb hi2 hj2 k2 (by omega), k3 j hj2, rfl, hR⟩ fin
  · exact jn_ok (P := CI n bs R U A0 G) (Q := RI bs R U A0 G) (-1) ⟨_, _, hx.1 h, rfl, CI_dn hC⟩ ⟨_, _, hm.1 h, rfl, rfl, hR⟩ fin
theorem jc_sl {s : Int32} {k : Nat} (hk : k < 16) (e : s = nI k) : isSl s := by rw [e]; exact nI_sl hk
theorem jc_bud {σ : am_S} (h : bud (400 * (n + 1)) (2600 * (n + 1)) σ) : bud 388 2522 σ := ⟨by have := h.1; omega, by have := h.2.1; omega, h.2.2.1, h.2.2.2⟩
theorem jc_read (h : Inv2 (n + 1) σx σm) (a : Int32) : lw_on (Inv2 n) IX10_read IX11_read [.int a] σx σm := by
  obtain ⟨bs, R, U, A0, G, h1, h2, hC, hR⟩ := h
  by_cases h : isSl a
  · obtain ⟨k, _, hk, rfl⟩ := i_2 (n := a) (lo := 0) (hi := 15) (by decide) ⟨h.1, by have := h.2; omega⟩
    obtain ⟨V, hV⟩ := hC.2.2.1
    obtain ⟨W, hW⟩ := hR.2.2.1
    obtain ⟨r, V', hx, -⟩ := j_read (bs := bs) (V := V) h1 (k := k) (by omega)
    obtain ⟨r', W', -, hm⟩ := j_read (bs := bs) (V := W) h1 (k := k) (by omega)
    exact jn_on (P := CI n [] R U A0 G) (Q := RI [] R U A0 G) (hx σx 1906 _ hC.1 hC.2.2.2.2.1 hC.2.2.2.1 hV (jc_bud hC.2.2.2.2.2.2.2.2) (fun τ g g3 g2 hS => xc_rd hC g g3 g2 hS)) (hm σm 1887 _ hR.1 hW (fun τ f g9 hS => mc_rd hR f g9 hS)) fun τ υ p q => ⟨[], R, U, A0, G, ⟨by decide, fun _ z => by simp at z⟩, h2, p, q⟩
  · exact jn_on (P := CI n bs R U A0 G) (Q := RI bs R U A0 G) (vX10_read (xs_slot (d := 1998) (fun k hk e => absurd (jc_sl hk e) h) (fun _ => ⟨fun z => absurd rfl z, fun _ => CI_dn hC⟩))) (vX11_read (ms_slot (d := 1997) (fun k hk e => absurd (jc_sl hk e) h) (fun _ => ⟨fun z => absurd rfl z, fun _ => ⟨rfl, hR⟩⟩))) fun τ υ p q => ⟨bs, R, U, A0, G, h1, h2, p, q⟩
theorem jc_on {Jx Jm : am_I} {as : List Value} (h : Inv2 (n + 1) σx σm) (hx : ∀ bs R U A0 G, CI (n + 1) bs R U A0 G σx → am_K ri am_Lx Jx 2000 (.ref 0 :: as) σx (fun _ τ => CI n bs R U A0 G τ)) (hm : ∀ bs R U A0 G, RI bs R U A0 G σm → am_K ri am_Lm Jm 2000 (.ref 0 :: as) σm (fun _ τ => RQ bs R U A0 G σm τ)) : lw_on (Inv2 n) Jx Jm as σx σm := by
  obtain ⟨bs, R, U, A0, G, h1, h2, hC, hR⟩ := h
  exact jn_on (P := CI n bs R U A0 G) (Q := RI bs R U A0 G) (hx _ _ _ _ _ hC) (hm _ _ _ _ _ hR) fun τ υ p q => ⟨bs, R, U, A0, G, h1, h2, p, q⟩
theorem jc_told (h : Inv2 (n + 1) σx σm) (a b : Int32) : lw_on (Inv2 n) IX10_told IX11_told [.int a, .int b] σx σm := jc_on h (fun _ _ _ _ _ h => xc_told h a b) (fun _ _ _ _ _ h => mc_told h a b)
theorem jc_part (h : Inv2 (n + 1) σx σm) (a b c : Int32) : lw_on (Inv2 n) IX10_part IX11_part [.int a, .int b, .int c] σx σm := jc_on h (fun _ _ _ _ _ h => xc_part h a b c) (fun _ _ _ _ _ h => mc_part h a b c)
theorem jc_order (h : Inv2 (n + 1) σx σm) (a b : Int32) : lw_on (Inv2 n) IX10_order IX11_order [.int a, .int b] σx σm := jc_on h (fun _ _ _ _ _ h => xc_order h a b) (fun _ _ _ _ _ h => mc_order h a b)
theorem jc_join (h : Inv2 (n + 1) σx σm) (a b c e : Int32) : lw_on (Inv2 n) IX10_join IX11_join [.int a, .int b, .int c, .int e] σx σm := jc_on h (fun _ _ _ _ _ h => xc_join h a b c e) (fun _ _ _ _ _ h => mc_join h a b c e)
theorem jc_print (h : Inv2 (n + 1) σx σm) (a : Int32) : lw_on (Inv2 n) IX10_print IX11_print [.int a] σx σm := jc_on h (fun _ _ _ _ _ h => xc_print h a) (fun _ _ _ _ _ h => mc_print h a)
theorem jc_out (h : Inv2 (n + 1) σx σm) (a : Int32) : lw_on (Inv2 n) IX10_out IX11_out [.int a] σx σm := jc_on h (fun _ _ _ _ _ h => xc_out h a) (fun _ _ _ _ _ h => mc_out h a)
theorem jc_match (h : Inv2 (n + 1) σx σm) (a b : Int32) : lw_on (Inv2 n) IX10_match IX11_match [.int a, .int b] σx σm := jc_on h (fun _ _ _ _ _ h => xc_match h a b) (fun _ _ _ _ _ h => mc_match h a b)
theorem jc_matched (h : Inv2 (n + 1) σx σm) (a b c : Int32) : lw_on (Inv2 n) IX10_matched IX11_matched [.int a, .int b, .int c] σx σm := jc_on h (fun _ _ _ _ _ h => xc_matched h a b c) (fun _ _ _ _ _ h => mc_matched h a b c)
theorem jc_instance (h : Inv2 (n + 1) σx σm) (a b c : Int32) : lw_on (Inv2 n) IX10_instance IX11_instance [.int a, .int b, .int c] σx σm := jc_on h (fun _ _ _ _ _ h => xc_instance h a b c) (fun _ _ _ _ _ h => mc_instance h a b c)
theorem jc_unify (h : Inv2 (n + 1) σx σm) (a b c : Int32) : lw_on (Inv2 n) IX10_unify IX11_unify [.int a, .int b, .int c] σx σm := jc_on h (fun _ _ _ _ _ h => xc_unify h a b c) (fun _ _ _ _ _ h => mc_unify h a b c)
theorem jc_bases (h : Inv2 (n + 1) σx σm) (a : Int32) : lw_on (Inv2 n) IX10_bases IX11_bases [.int a] σx σm := jc_on h (fun _ _ _ _ _ h => xc_bases h a) (fun _ _ _ _ _ h => mc_bases h a)
theorem jc_base (h : Inv2 (n + 1) σx σm) (a b : Int32) : lw_on (Inv2 n) IX10_base IX11_base [.int a, .int b] σx σm := jc_on h (fun _ _ _ _ _ h => xc_base h a b) (fun _ _ _ _ _ h => mc_base h a b)
theorem jc_set (h : Inv2 (n + 1) σx σm) (a : Int32) : lw_on (Inv2 n) IX10_set IX11_set [.int a] σx σm := jc_on h (fun _ _ _ _ _ h => xc_set h a) (fun _ _ _ _ _ h => mc_set h a)
theorem jc_unified (h : Inv2 (n + 1) σx σm) (a b c : Int32) : lw_on (Inv2 n) IX10_unified IX11_unified [.int a, .int b, .int c] σx σm := jc_on h (fun _ _ _ _ _ h => xc_unified h a b c) (fun _ _ _ _ _ h => mc_unified h a b c)
end JC
/-! ===== two new objects ===== -/
theorem st_Sx : Sx am_x0 (fun _ => none) := fun _ _ => Or.inl ⟨rfl, rfl⟩
theorem st_Sm : Sm am_m0 (fun _ => none) := fun _ _ => Or.inl ⟨rfl, rfl⟩
theorem st_bs : bs28 1 1 (fun _ _ => 0) am_x0 := ⟨rfl, rfl, rfl, rfl, by decide, by decide, fun _ _ _ _ => sy_z0⟩
theorem st_ms : ms 1 1 (fun _ _ => 0) am_m0 := ⟨rfl, rfl, by decide, by decide, by decide, fun _ _ _ _ => sy_z0⟩
theorem st_letV : ∀ i, i < 22 → (gS am_x0 (49 + i) 0 = nI 0 ∧ gS am_x0 (49 + i) 1 = nI i ∧ gQ am_x0 (49 + i) = some 48 ∧ gS am_x0 (49 + i) 3 = nI 1 ∧ gS am_x0 (49 + i) 4 = nI (vb (node 0 i [])) ∧ gP am_x0 4 i = some (49 + i) ∧ gk am_x0 (49 + i) = true) := by decide +kernel
theorem st_letC : ∀ i, i < 5 → (gS am_x0 (71 + i) 0 = nI 1 ∧ gS am_x0 (71 + i) 1 = nI i ∧ gQ am_x0 (71 + i) = some 48 ∧ gS am_x0 (71 + i) 3 = nI 1 ∧ gS am_x0 (71 + i) 4 = nI (vb (node 1 i [])) ∧ gP am_x0 4 (22 + i) = some (71 + i) ∧ gk am_x0 (71 + i) = true) := by decide +kernel
theorem st_ar : isAr am_x0 48 0 := ⟨by decide, by decide, rfl, rfl⟩
theorem st_lts : lts am_x0 := by
  refine ⟨fun i hi => ?_, fun i hi => ?_⟩
  · obtain ⟨h1, h2, h3, h4, h5, h6, h7⟩ := st_letV i hi
    exact ⟨_, h6, 1, ⟨by omega, show 49 + i < 76 by omega, h7⟩, 0, i, [], 48, rfl, fun _ z => by simp at z, h1, h2, h3, st_ar, h4, h5, fun _ _ z => by simp at z⟩
  · obtain ⟨h1, h2, h3, h4, h5, h6, h7⟩ := st_letC i hi
    exact ⟨_, h6, 1, ⟨by omega, show 71 + i < 76 by omega, h7⟩, 1, i, [], 48, rfl, fun _ z => by simp at z, h1, h2, h3, st_ar, h4, h5, fun _ _ z => by simp at z⟩
theorem st_bud : bud (400 * 512) (2600 * 512) am_x0 := ⟨by decide +kernel, by decide +kernel, by decide +kernel, by decide +kernel⟩
theorem st_Ins : Ins [] am_x0 := ⟨⟨rfl, List.Pairwise.nil, fun _ _ z => by simp at z, fun _ z => by simp at z⟩, by decide, fun _ z => by simp at z, fun _ _ z => by simp at z⟩
theorem st_CI : CI 512 [] 1 1 (fun _ _ => 0) [] am_x0 := ⟨⟨rfl, fun _ _ z => by simp at z⟩, ⟨st_bs, rfl, fun _ z => by simp at z⟩, ⟨_, st_Sx⟩, st_lts, rfl, ⟨[], by decide, rfl, fun _ _ z => by simp at z⟩, ⟨none, rfl, rfl, rfl⟩, MG_0 st_Ins rfl, st_bud⟩
theorem st_MR : MRf am_m0 := ⟨[], 0, ⟨rfl, by decide, fun _ z => by simp at z, fun _ _ z => by simp at z⟩, rfl, by decide, fun i hi => absurd hi (Nat.not_lt_zero _), fun r k hr => absurd hr (Nat.not_lt_zero _)⟩
theorem st_RI : RI [] 1 1 (fun _ _ => 0) [] am_m0 := ⟨⟨rfl, fun _ _ z => by simp at z⟩, ⟨st_ms, rfl, fun _ z => by simp at z⟩, ⟨_, st_Sm⟩, ⟨[], by decide, rfl, fun _ _ z => by simp at z⟩, ⟨none, rfl⟩, st_MR⟩
theorem st_Inv : Inv2 512 am_x0 am_m0 := ⟨[], 1, 1, _, [], ⟨by decide, fun _ z => by simp at z⟩, by decide, st_CI, st_RI⟩
